section
/-- a private method of a class that the tables say can be made, by its rows of tables_1 -/
def lw_okq (q : MethodName × Nat) : Prop := (q.1.cls ≠ "java/lang/invoke/MethodHandle" ∧ q.1.cls ≠ "java/lang/invoke/VarHandle") ∧ Cond.instantiable q.1.cls q.2 ∈ tables_1 ∧ Cond.privateMethod q.1 ∈ tables_1 ∧ Cond.instanceMethod q.1 ∈ tables_1
theorem lw_p0 : lw_okq (⟨"FellersOrder", "refused", "(I)I"⟩, 8) := ⟨⟨by decide +kernel, by decide +kernel⟩, List.mem_of_getElem? (i := 17) (by decide +kernel), List.mem_of_getElem? (i := 256) (by decide +kernel), List.mem_of_getElem? (i := 257) (by decide +kernel)⟩
theorem lw_p1 : lw_okq (⟨"FellersOrder", "bringJob", "(II)I"⟩, 8) := ⟨⟨by decide +kernel, by decide +kernel⟩, List.mem_of_getElem? (i := 17) (by decide +kernel), List.mem_of_getElem? (i := 264) (by decide +kernel), List.mem_of_getElem? (i := 265) (by decide +kernel)⟩
theorem lw_p2 : lw_okq (⟨"FellersOrder$Yard", "renew", "()V"⟩, 10) := ⟨⟨by decide +kernel, by decide +kernel⟩, List.mem_of_getElem? (i := 25) (by decide +kernel), List.mem_of_getElem? (i := 272) (by decide +kernel), List.mem_of_getElem? (i := 273) (by decide +kernel)⟩
theorem lw_p3 : lw_okq (⟨"FellersOrder$Yard", "followLaid", "()V"⟩, 10) := ⟨⟨by decide +kernel, by decide +kernel⟩, List.mem_of_getElem? (i := 25) (by decide +kernel), List.mem_of_getElem? (i := 276) (by decide +kernel), List.mem_of_getElem? (i := 277) (by decide +kernel)⟩
theorem lw_p4 : lw_okq (⟨"FellersOrder$Yard", "turnBehind", "()V"⟩, 10) := ⟨⟨by decide +kernel, by decide +kernel⟩, List.mem_of_getElem? (i := 25) (by decide +kernel), List.mem_of_getElem? (i := 283) (by decide +kernel), List.mem_of_getElem? (i := 284) (by decide +kernel)⟩
theorem lw_p5 : lw_okq (⟨"FellersOrder$Yard", "sumHalf", "(II)V"⟩, 10) := ⟨⟨by decide +kernel, by decide +kernel⟩, List.mem_of_getElem? (i := 25) (by decide +kernel), List.mem_of_getElem? (i := 287) (by decide +kernel), List.mem_of_getElem? (i := 288) (by decide +kernel)⟩
theorem lw_p6 : lw_okq (⟨"FellersOrder", "done", "(I)I"⟩, 8) := ⟨⟨by decide +kernel, by decide +kernel⟩, List.mem_of_getElem? (i := 17) (by decide +kernel), List.mem_of_getElem? (i := 306) (by decide +kernel), List.mem_of_getElem? (i := 307) (by decide +kernel)⟩
theorem lw_p7 : lw_okq (⟨"FellersOrder$Plan", "findBlocks", "(LFellersOrder$Yard;)V"⟩, 9) := ⟨⟨by decide +kernel, by decide +kernel⟩, List.mem_of_getElem? (i := 65) (by decide +kernel), List.mem_of_getElem? (i := 408) (by decide +kernel), List.mem_of_getElem? (i := 409) (by decide +kernel)⟩
theorem lw_p8 : lw_okq (⟨"FellersOrder$Plan", "findOrders", "(LFellersOrder$Yard;)V"⟩, 9) := ⟨⟨by decide +kernel, by decide +kernel⟩, List.mem_of_getElem? (i := 65) (by decide +kernel), List.mem_of_getElem? (i := 538) (by decide +kernel), List.mem_of_getElem? (i := 539) (by decide +kernel)⟩
theorem lw_p9 : lw_okq (⟨"FellersOrder$Plan", "goOnFrom", "(LFellersOrder$Yard;I)V"⟩, 9) := ⟨⟨by decide +kernel, by decide +kernel⟩, List.mem_of_getElem? (i := 65) (by decide +kernel), List.mem_of_getElem? (i := 542) (by decide +kernel), List.mem_of_getElem? (i := 543) (by decide +kernel)⟩
theorem lw_p10 : lw_okq (⟨"FellersOrder$Plan", "readBestRow", "(LFellersOrder$Yard;)V"⟩, 9) := ⟨⟨by decide +kernel, by decide +kernel⟩, List.mem_of_getElem? (i := 65) (by decide +kernel), List.mem_of_getElem? (i := 556) (by decide +kernel), List.mem_of_getElem? (i := 557) (by decide +kernel)⟩
theorem lw_p11 : lw_okq (⟨"FellersOrder$Plan", "leastBestNext", "(LFellersOrder$Yard;I)I"⟩, 9) := ⟨⟨by decide +kernel, by decide +kernel⟩, List.mem_of_getElem? (i := 65) (by decide +kernel), List.mem_of_getElem? (i := 560) (by decide +kernel), List.mem_of_getElem? (i := 561) (by decide +kernel)⟩
theorem lw_p12 : lw_okq (⟨"FellersOrder$Plan", "isBestNext", "(LFellersOrder$Yard;II)Z"⟩, 9) := ⟨⟨by decide +kernel, by decide +kernel⟩, List.mem_of_getElem? (i := 65) (by decide +kernel), List.mem_of_getElem? (i := 564) (by decide +kernel), List.mem_of_getElem? (i := 565) (by decide +kernel)⟩
theorem lw_p13 : lw_okq (⟨"FellersOrder$Plan", "findStanding", "(LFellersOrder$Yard;)V"⟩, 9) := ⟨⟨by decide +kernel, by decide +kernel⟩, List.mem_of_getElem? (i := 65) (by decide +kernel), List.mem_of_getElem? (i := 592) (by decide +kernel), List.mem_of_getElem? (i := 593) (by decide +kernel)⟩
theorem lw_p14 : lw_okq (⟨"FellersOrder$Plan", "beginsBestOrder", "(LFellersOrder$Yard;I)Z"⟩, 9) := ⟨⟨by decide +kernel, by decide +kernel⟩, List.mem_of_getElem? (i := 65) (by decide +kernel), List.mem_of_getElem? (i := 596) (by decide +kernel), List.mem_of_getElem? (i := 597) (by decide +kernel)⟩
theorem lw_p15 : lw_okq (⟨"FellersOrder$Plan", "noteStanding", "(LFellersOrder$Yard;I)V"⟩, 9) := ⟨⟨by decide +kernel, by decide +kernel⟩, List.mem_of_getElem? (i := 65) (by decide +kernel), List.mem_of_getElem? (i := 600) (by decide +kernel), List.mem_of_getElem? (i := 601) (by decide +kernel)⟩
def lw_privs_1 : List (MethodName × Nat) := [(⟨"FellersOrder", "refused", "(I)I"⟩, 8), (⟨"FellersOrder", "bringJob", "(II)I"⟩, 8), (⟨"FellersOrder$Yard", "renew", "()V"⟩, 10), (⟨"FellersOrder$Yard", "followLaid", "()V"⟩, 10), (⟨"FellersOrder$Yard", "turnBehind", "()V"⟩, 10), (⟨"FellersOrder$Yard", "sumHalf", "(II)V"⟩, 10), (⟨"FellersOrder", "done", "(I)I"⟩, 8), (⟨"FellersOrder$Plan", "findBlocks", "(LFellersOrder$Yard;)V"⟩, 9), (⟨"FellersOrder$Plan", "findOrders", "(LFellersOrder$Yard;)V"⟩, 9), (⟨"FellersOrder$Plan", "goOnFrom", "(LFellersOrder$Yard;I)V"⟩, 9), (⟨"FellersOrder$Plan", "readBestRow", "(LFellersOrder$Yard;)V"⟩, 9), (⟨"FellersOrder$Plan", "leastBestNext", "(LFellersOrder$Yard;I)I"⟩, 9), (⟨"FellersOrder$Plan", "isBestNext", "(LFellersOrder$Yard;II)Z"⟩, 9), (⟨"FellersOrder$Plan", "findStanding", "(LFellersOrder$Yard;)V"⟩, 9), (⟨"FellersOrder$Plan", "beginsBestOrder", "(LFellersOrder$Yard;I)Z"⟩, 9), (⟨"FellersOrder$Plan", "noteStanding", "(LFellersOrder$Yard;I)V"⟩, 9)]
theorem lw_r1 : ∀ q ∈ lw_privs_1, lw_okq q := List.forall_mem_cons.mpr ⟨lw_p0, List.forall_mem_cons.mpr ⟨lw_p1, List.forall_mem_cons.mpr ⟨lw_p2, List.forall_mem_cons.mpr ⟨lw_p3, List.forall_mem_cons.mpr ⟨lw_p4, List.forall_mem_cons.mpr ⟨lw_p5, List.forall_mem_cons.mpr ⟨lw_p6, List.forall_mem_cons.mpr ⟨lw_p7, List.forall_mem_cons.mpr ⟨lw_p8, List.forall_mem_cons.mpr ⟨lw_p9, List.forall_mem_cons.mpr ⟨lw_p10, List.forall_mem_cons.mpr ⟨lw_p11, List.forall_mem_cons.mpr ⟨lw_p12, List.forall_mem_cons.mpr ⟨lw_p13, List.forall_mem_cons.mpr ⟨lw_p14, List.forall_mem_cons.mpr ⟨lw_p15, fun _ h => absurd h List.not_mem_nil⟩⟩⟩⟩⟩⟩⟩⟩⟩⟩⟩⟩⟩⟩⟩⟩
theorem lw_p16 : lw_okq (⟨"FellersOrder$Yard", "unbound", "(I)I"⟩, 10) := ⟨⟨by decide +kernel, by decide +kernel⟩, List.mem_of_getElem? (i := 25) (by decide +kernel), List.mem_of_getElem? (i := 612) (by decide +kernel), List.mem_of_getElem? (i := 613) (by decide +kernel)⟩
theorem lw_p17 : lw_okq (⟨"FellersOrder$Yard", "findEnds", "(II)I"⟩, 10) := ⟨⟨by decide +kernel, by decide +kernel⟩, List.mem_of_getElem? (i := 25) (by decide +kernel), List.mem_of_getElem? (i := 616) (by decide +kernel), List.mem_of_getElem? (i := 617) (by decide +kernel)⟩
theorem lw_p18 : lw_okq (⟨"FellersOrder", "forgeSize", "(LFellersOrder$Sheet;I)I"⟩, 8) := ⟨⟨by decide +kernel, by decide +kernel⟩, List.mem_of_getElem? (i := 17) (by decide +kernel), List.mem_of_getElem? (i := 772) (by decide +kernel), List.mem_of_getElem? (i := 773) (by decide +kernel)⟩
theorem lw_p19 : lw_okq (⟨"FellersOrder", "forgeCopy", "(LFellersOrder$Sheet;I)I"⟩, 8) := ⟨⟨by decide +kernel, by decide +kernel⟩, List.mem_of_getElem? (i := 17) (by decide +kernel), List.mem_of_getElem? (i := 776) (by decide +kernel), List.mem_of_getElem? (i := 777) (by decide +kernel)⟩
theorem lw_p20 : lw_okq (⟨"FellersOrder", "forgeLaying", "(LFellersOrder$Sheet;)I"⟩, 8) := ⟨⟨by decide +kernel, by decide +kernel⟩, List.mem_of_getElem? (i := 17) (by decide +kernel), List.mem_of_getElem? (i := 784) (by decide +kernel), List.mem_of_getElem? (i := 785) (by decide +kernel)⟩
theorem lw_p21 : lw_okq (⟨"FellersOrder", "forgeUnit", "(I)I"⟩, 8) := ⟨⟨by decide +kernel, by decide +kernel⟩, List.mem_of_getElem? (i := 17) (by decide +kernel), List.mem_of_getElem? (i := 789) (by decide +kernel), List.mem_of_getElem? (i := 790) (by decide +kernel)⟩
theorem lw_p22 : lw_okq (⟨"FellersOrderModel", "refused", "(I)I"⟩, 27) := ⟨⟨by decide +kernel, by decide +kernel⟩, List.mem_of_getElem? (i := 812) (by decide +kernel), List.mem_of_getElem? (i := 905) (by decide +kernel), List.mem_of_getElem? (i := 906) (by decide +kernel)⟩
theorem lw_p23 : lw_okq (⟨"FellersOrderModel", "done", "(I)I"⟩, 27) := ⟨⟨by decide +kernel, by decide +kernel⟩, List.mem_of_getElem? (i := 812) (by decide +kernel), List.mem_of_getElem? (i := 909) (by decide +kernel), List.mem_of_getElem? (i := 910) (by decide +kernel)⟩
theorem lw_p24 : lw_okq (⟨"FellersOrderModel", "made", "(II)I"⟩, 27) := ⟨⟨by decide +kernel, by decide +kernel⟩, List.mem_of_getElem? (i := 812) (by decide +kernel), List.mem_of_getElem? (i := 920) (by decide +kernel), List.mem_of_getElem? (i := 921) (by decide +kernel)⟩
theorem lw_p25 : lw_okq (⟨"FellersOrderModel", "keep", "()V"⟩, 27) := ⟨⟨by decide +kernel, by decide +kernel⟩, List.mem_of_getElem? (i := 812) (by decide +kernel), List.mem_of_getElem? (i := 924) (by decide +kernel), List.mem_of_getElem? (i := 925) (by decide +kernel)⟩
theorem lw_p26 : lw_okq (⟨"FellersOrderModel", "isJob", "(I)Z"⟩, 27) := ⟨⟨by decide +kernel, by decide +kernel⟩, List.mem_of_getElem? (i := 812) (by decide +kernel), List.mem_of_getElem? (i := 932) (by decide +kernel), List.mem_of_getElem? (i := 933) (by decide +kernel)⟩
theorem lw_p27 : lw_okq (⟨"FellersOrderModel", "close", "()V"⟩, 27) := ⟨⟨by decide +kernel, by decide +kernel⟩, List.mem_of_getElem? (i := 812) (by decide +kernel), List.mem_of_getElem? (i := 940) (by decide +kernel), List.mem_of_getElem? (i := 941) (by decide +kernel)⟩
theorem lw_p28 : lw_okq (⟨"FellersOrderModel", "placeOf", "(I)I"⟩, 27) := ⟨⟨by decide +kernel, by decide +kernel⟩, List.mem_of_getElem? (i := 812) (by decide +kernel), List.mem_of_getElem? (i := 955) (by decide +kernel), List.mem_of_getElem? (i := 956) (by decide +kernel)⟩
theorem lw_p29 : lw_okq (⟨"FellersOrderModel", "lacking", "()I"⟩, 27) := ⟨⟨by decide +kernel, by decide +kernel⟩, List.mem_of_getElem? (i := 812) (by decide +kernel), List.mem_of_getElem? (i := 967) (by decide +kernel), List.mem_of_getElem? (i := 968) (by decide +kernel)⟩
theorem lw_p30 : lw_okq (⟨"FellersOrderModel", "change", "(I)V"⟩, 27) := ⟨⟨by decide +kernel, by decide +kernel⟩, List.mem_of_getElem? (i := 812) (by decide +kernel), List.mem_of_getElem? (i := 988) (by decide +kernel), List.mem_of_getElem? (i := 989) (by decide +kernel)⟩
theorem lw_p31 : lw_okq (⟨"FellersOrderModel", "look", "()V"⟩, 27) := ⟨⟨by decide +kernel, by decide +kernel⟩, List.mem_of_getElem? (i := 812) (by decide +kernel), List.mem_of_getElem? (i := 996) (by decide +kernel), List.mem_of_getElem? (i := 997) (by decide +kernel)⟩
def lw_privs_2 : List (MethodName × Nat) := [(⟨"FellersOrder$Yard", "unbound", "(I)I"⟩, 10), (⟨"FellersOrder$Yard", "findEnds", "(II)I"⟩, 10), (⟨"FellersOrder", "forgeSize", "(LFellersOrder$Sheet;I)I"⟩, 8), (⟨"FellersOrder", "forgeCopy", "(LFellersOrder$Sheet;I)I"⟩, 8), (⟨"FellersOrder", "forgeLaying", "(LFellersOrder$Sheet;)I"⟩, 8), (⟨"FellersOrder", "forgeUnit", "(I)I"⟩, 8), (⟨"FellersOrderModel", "refused", "(I)I"⟩, 27), (⟨"FellersOrderModel", "done", "(I)I"⟩, 27), (⟨"FellersOrderModel", "made", "(II)I"⟩, 27), (⟨"FellersOrderModel", "keep", "()V"⟩, 27), (⟨"FellersOrderModel", "isJob", "(I)Z"⟩, 27), (⟨"FellersOrderModel", "close", "()V"⟩, 27), (⟨"FellersOrderModel", "placeOf", "(I)I"⟩, 27), (⟨"FellersOrderModel", "lacking", "()I"⟩, 27), (⟨"FellersOrderModel", "change", "(I)V"⟩, 27), (⟨"FellersOrderModel", "look", "()V"⟩, 27)]
theorem lw_r2 : ∀ q ∈ lw_privs_2, lw_okq q := List.forall_mem_cons.mpr ⟨lw_p16, List.forall_mem_cons.mpr ⟨lw_p17, List.forall_mem_cons.mpr ⟨lw_p18, List.forall_mem_cons.mpr ⟨lw_p19, List.forall_mem_cons.mpr ⟨lw_p20, List.forall_mem_cons.mpr ⟨lw_p21, List.forall_mem_cons.mpr ⟨lw_p22, List.forall_mem_cons.mpr ⟨lw_p23, List.forall_mem_cons.mpr ⟨lw_p24, List.forall_mem_cons.mpr ⟨lw_p25, List.forall_mem_cons.mpr ⟨lw_p26, List.forall_mem_cons.mpr ⟨lw_p27, List.forall_mem_cons.mpr ⟨lw_p28, List.forall_mem_cons.mpr ⟨lw_p29, List.forall_mem_cons.mpr ⟨lw_p30, List.forall_mem_cons.mpr ⟨lw_p31, fun _ h => absurd h List.not_mem_nil⟩⟩⟩⟩⟩⟩⟩⟩⟩⟩⟩⟩⟩⟩⟩⟩
theorem lw_p32 : lw_okq (⟨"FellersOrderModel", "yard", "(Z)V"⟩, 27) := ⟨⟨by decide +kernel, by decide +kernel⟩, List.mem_of_getElem? (i := 812) (by decide +kernel), List.mem_of_getElem? (i := 1000) (by decide +kernel), List.mem_of_getElem? (i := 1001) (by decide +kernel)⟩
theorem lw_p33 : lw_okq (⟨"FellersOrderModel", "layAll", "()V"⟩, 27) := ⟨⟨by decide +kernel, by decide +kernel⟩, List.mem_of_getElem? (i := 812) (by decide +kernel), List.mem_of_getElem? (i := 1004) (by decide +kernel), List.mem_of_getElem? (i := 1005) (by decide +kernel)⟩
theorem lw_p34 : lw_okq (⟨"FellersOrderModel", "all", "()I"⟩, 27) := ⟨⟨by decide +kernel, by decide +kernel⟩, List.mem_of_getElem? (i := 812) (by decide +kernel), List.mem_of_getElem? (i := 1008) (by decide +kernel), List.mem_of_getElem? (i := 1009) (by decide +kernel)⟩
theorem lw_p35 : lw_okq (⟨"FellersOrderModel", "goes", "(III)V"⟩, 27) := ⟨⟨by decide +kernel, by decide +kernel⟩, List.mem_of_getElem? (i := 812) (by decide +kernel), List.mem_of_getElem? (i := 1013) (by decide +kernel), List.mem_of_getElem? (i := 1014) (by decide +kernel)⟩
theorem lw_p36 : lw_okq (⟨"FellersOrderModel", "findBlocks", "()V"⟩, 27) := ⟨⟨by decide +kernel, by decide +kernel⟩, List.mem_of_getElem? (i := 812) (by decide +kernel), List.mem_of_getElem? (i := 1037) (by decide +kernel), List.mem_of_getElem? (i := 1038) (by decide +kernel)⟩
theorem lw_p37 : lw_okq (⟨"FellersOrderModel", "blockBehind", "(I)I"⟩, 27) := ⟨⟨by decide +kernel, by decide +kernel⟩, List.mem_of_getElem? (i := 812) (by decide +kernel), List.mem_of_getElem? (i := 1041) (by decide +kernel), List.mem_of_getElem? (i := 1042) (by decide +kernel)⟩
theorem lw_p38 : lw_okq (⟨"FellersOrderModel", "isBeginning", "(II)Z"⟩, 27) := ⟨⟨by decide +kernel, by decide +kernel⟩, List.mem_of_getElem? (i := 812) (by decide +kernel), List.mem_of_getElem? (i := 1045) (by decide +kernel), List.mem_of_getElem? (i := 1046) (by decide +kernel)⟩
theorem lw_p39 : lw_okq (⟨"FellersOrderModel", "weightOf", "(I)I"⟩, 27) := ⟨⟨by decide +kernel, by decide +kernel⟩, List.mem_of_getElem? (i := 812) (by decide +kernel), List.mem_of_getElem? (i := 1049) (by decide +kernel), List.mem_of_getElem? (i := 1050) (by decide +kernel)⟩
theorem lw_p40 : lw_okq (⟨"FellersOrderModel", "lengthOf", "(I)I"⟩, 27) := ⟨⟨by decide +kernel, by decide +kernel⟩, List.mem_of_getElem? (i := 812) (by decide +kernel), List.mem_of_getElem? (i := 1053) (by decide +kernel), List.mem_of_getElem? (i := 1054) (by decide +kernel)⟩
theorem lw_p41 : lw_okq (⟨"FellersOrderModel", "kindOf", "(I)I"⟩, 27) := ⟨⟨by decide +kernel, by decide +kernel⟩, List.mem_of_getElem? (i := 812) (by decide +kernel), List.mem_of_getElem? (i := 1061) (by decide +kernel), List.mem_of_getElem? (i := 1062) (by decide +kernel)⟩
theorem lw_p42 : lw_okq (⟨"FellersOrderModel", "behindOf", "(I)I"⟩, 27) := ⟨⟨by decide +kernel, by decide +kernel⟩, List.mem_of_getElem? (i := 812) (by decide +kernel), List.mem_of_getElem? (i := 1068) (by decide +kernel), List.mem_of_getElem? (i := 1069) (by decide +kernel)⟩
theorem lw_p43 : lw_okq (⟨"FellersOrderModel", "blockWith", "(I)I"⟩, 27) := ⟨⟨by decide +kernel, by decide +kernel⟩, List.mem_of_getElem? (i := 812) (by decide +kernel), List.mem_of_getElem? (i := 1072) (by decide +kernel), List.mem_of_getElem? (i := 1073) (by decide +kernel)⟩
theorem lw_p44 : lw_okq (⟨"FellersOrderModel", "pairs", "()I"⟩, 27) := ⟨⟨by decide +kernel, by decide +kernel⟩, List.mem_of_getElem? (i := 812) (by decide +kernel), List.mem_of_getElem? (i := 1084) (by decide +kernel), List.mem_of_getElem? (i := 1085) (by decide +kernel)⟩
theorem lw_p45 : lw_okq (⟨"FellersOrderModel", "beginnings", "()I"⟩, 27) := ⟨⟨by decide +kernel, by decide +kernel⟩, List.mem_of_getElem? (i := 812) (by decide +kernel), List.mem_of_getElem? (i := 1088) (by decide +kernel), List.mem_of_getElem? (i := 1089) (by decide +kernel)⟩
theorem lw_p46 : lw_okq (⟨"FellersOrderModel", "four", "()I"⟩, 27) := ⟨⟨by decide +kernel, by decide +kernel⟩, List.mem_of_getElem? (i := 812) (by decide +kernel), List.mem_of_getElem? (i := 1096) (by decide +kernel), List.mem_of_getElem? (i := 1097) (by decide +kernel)⟩
theorem lw_p47 : lw_okq (⟨"FellersOrderModel", "apart", "(II)Z"⟩, 27) := ⟨⟨by decide +kernel, by decide +kernel⟩, List.mem_of_getElem? (i := 812) (by decide +kernel), List.mem_of_getElem? (i := 1100) (by decide +kernel), List.mem_of_getElem? (i := 1101) (by decide +kernel)⟩
def lw_privs_3 : List (MethodName × Nat) := [(⟨"FellersOrderModel", "yard", "(Z)V"⟩, 27), (⟨"FellersOrderModel", "layAll", "()V"⟩, 27), (⟨"FellersOrderModel", "all", "()I"⟩, 27), (⟨"FellersOrderModel", "goes", "(III)V"⟩, 27), (⟨"FellersOrderModel", "findBlocks", "()V"⟩, 27), (⟨"FellersOrderModel", "blockBehind", "(I)I"⟩, 27), (⟨"FellersOrderModel", "isBeginning", "(II)Z"⟩, 27), (⟨"FellersOrderModel", "weightOf", "(I)I"⟩, 27), (⟨"FellersOrderModel", "lengthOf", "(I)I"⟩, 27), (⟨"FellersOrderModel", "kindOf", "(I)I"⟩, 27), (⟨"FellersOrderModel", "behindOf", "(I)I"⟩, 27), (⟨"FellersOrderModel", "blockWith", "(I)I"⟩, 27), (⟨"FellersOrderModel", "pairs", "()I"⟩, 27), (⟨"FellersOrderModel", "beginnings", "()I"⟩, 27), (⟨"FellersOrderModel", "four", "()I"⟩, 27), (⟨"FellersOrderModel", "apart", "(II)Z"⟩, 27)]
theorem lw_r3 : ∀ q ∈ lw_privs_3, lw_okq q := List.forall_mem_cons.mpr ⟨lw_p32, List.forall_mem_cons.mpr ⟨lw_p33, List.forall_mem_cons.mpr ⟨lw_p34, List.forall_mem_cons.mpr ⟨lw_p35, List.forall_mem_cons.mpr ⟨lw_p36, List.forall_mem_cons.mpr ⟨lw_p37, List.forall_mem_cons.mpr ⟨lw_p38, List.forall_mem_cons.mpr ⟨lw_p39, List.forall_mem_cons.mpr ⟨lw_p40, List.forall_mem_cons.mpr ⟨lw_p41, List.forall_mem_cons.mpr ⟨lw_p42, List.forall_mem_cons.mpr ⟨lw_p43, List.forall_mem_cons.mpr ⟨lw_p44, List.forall_mem_cons.mpr ⟨lw_p45, List.forall_mem_cons.mpr ⟨lw_p46, List.forall_mem_cons.mpr ⟨lw_p47, fun _ h => absurd h List.not_mem_nil⟩⟩⟩⟩⟩⟩⟩⟩⟩⟩⟩⟩⟩⟩⟩⟩
theorem lw_p48 : lw_okq (⟨"FellersOrderModel", "last", "(III)I"⟩, 27) := ⟨⟨by decide +kernel, by decide +kernel⟩, List.mem_of_getElem? (i := 812) (by decide +kernel), List.mem_of_getElem? (i := 1112) (by decide +kernel), List.mem_of_getElem? (i := 1113) (by decide +kernel)⟩
theorem lw_p49 : lw_okq (⟨"FellersOrderModel", "unitLast", "(II)I"⟩, 27) := ⟨⟨by decide +kernel, by decide +kernel⟩, List.mem_of_getElem? (i := 812) (by decide +kernel), List.mem_of_getElem? (i := 1116) (by decide +kernel), List.mem_of_getElem? (i := 1117) (by decide +kernel)⟩
theorem lw_p50 : lw_okq (⟨"FellersOrderModel", "ran", "(I)V"⟩, 27) := ⟨⟨by decide +kernel, by decide +kernel⟩, List.mem_of_getElem? (i := 812) (by decide +kernel), List.mem_of_getElem? (i := 1120) (by decide +kernel), List.mem_of_getElem? (i := 1121) (by decide +kernel)⟩
theorem lw_p51 : lw_okq (⟨"FellersOrderModel", "jobLast", "(II)I"⟩, 27) := ⟨⟨by decide +kernel, by decide +kernel⟩, List.mem_of_getElem? (i := 812) (by decide +kernel), List.mem_of_getElem? (i := 1124) (by decide +kernel), List.mem_of_getElem? (i := 1125) (by decide +kernel)⟩
theorem lw_p52 : lw_okq (⟨"FellersOrderModel", "jobFollow", "(II)I"⟩, 27) := ⟨⟨by decide +kernel, by decide +kernel⟩, List.mem_of_getElem? (i := 812) (by decide +kernel), List.mem_of_getElem? (i := 1128) (by decide +kernel), List.mem_of_getElem? (i := 1129) (by decide +kernel)⟩
theorem lw_p53 : lw_okq (⟨"FellersOrderModel", "weigh", "(III)I"⟩, 27) := ⟨⟨by decide +kernel, by decide +kernel⟩, List.mem_of_getElem? (i := 812) (by decide +kernel), List.mem_of_getElem? (i := 1132) (by decide +kernel), List.mem_of_getElem? (i := 1133) (by decide +kernel)⟩
theorem lw_p54 : lw_okq (⟨"FellersOrderModel", "follow", "(III)I"⟩, 27) := ⟨⟨by decide +kernel, by decide +kernel⟩, List.mem_of_getElem? (i := 812) (by decide +kernel), List.mem_of_getElem? (i := 1136) (by decide +kernel), List.mem_of_getElem? (i := 1137) (by decide +kernel)⟩
theorem lw_p55 : lw_okq (⟨"FellersOrderModel", "tell", "(III)I"⟩, 27) := ⟨⟨by decide +kernel, by decide +kernel⟩, List.mem_of_getElem? (i := 812) (by decide +kernel), List.mem_of_getElem? (i := 1140) (by decide +kernel), List.mem_of_getElem? (i := 1141) (by decide +kernel)⟩
theorem lw_p56 : lw_okq (⟨"FellersOrderModel", "jobTell", "(III)I"⟩, 27) := ⟨⟨by decide +kernel, by decide +kernel⟩, List.mem_of_getElem? (i := 812) (by decide +kernel), List.mem_of_getElem? (i := 1144) (by decide +kernel), List.mem_of_getElem? (i := 1145) (by decide +kernel)⟩
theorem lw_p57 : lw_okq (⟨"FellersOrderModel", "sum", "(II)I"⟩, 27) := ⟨⟨by decide +kernel, by decide +kernel⟩, List.mem_of_getElem? (i := 812) (by decide +kernel), List.mem_of_getElem? (i := 1169) (by decide +kernel), List.mem_of_getElem? (i := 1170) (by decide +kernel)⟩
theorem lw_p58 : lw_okq (⟨"FellersOrderModel", "unitTaken", "(I)I"⟩, 27) := ⟨⟨by decide +kernel, by decide +kernel⟩, List.mem_of_getElem? (i := 812) (by decide +kernel), List.mem_of_getElem? (i := 1173) (by decide +kernel), List.mem_of_getElem? (i := 1174) (by decide +kernel)⟩
def lw_privs_4 : List (MethodName × Nat) := [(⟨"FellersOrderModel", "last", "(III)I"⟩, 27), (⟨"FellersOrderModel", "unitLast", "(II)I"⟩, 27), (⟨"FellersOrderModel", "ran", "(I)V"⟩, 27), (⟨"FellersOrderModel", "jobLast", "(II)I"⟩, 27), (⟨"FellersOrderModel", "jobFollow", "(II)I"⟩, 27), (⟨"FellersOrderModel", "weigh", "(III)I"⟩, 27), (⟨"FellersOrderModel", "follow", "(III)I"⟩, 27), (⟨"FellersOrderModel", "tell", "(III)I"⟩, 27), (⟨"FellersOrderModel", "jobTell", "(III)I"⟩, 27), (⟨"FellersOrderModel", "sum", "(II)I"⟩, 27), (⟨"FellersOrderModel", "unitTaken", "(I)I"⟩, 27)]
theorem lw_r4 : ∀ q ∈ lw_privs_4, lw_okq q := List.forall_mem_cons.mpr ⟨lw_p48, List.forall_mem_cons.mpr ⟨lw_p49, List.forall_mem_cons.mpr ⟨lw_p50, List.forall_mem_cons.mpr ⟨lw_p51, List.forall_mem_cons.mpr ⟨lw_p52, List.forall_mem_cons.mpr ⟨lw_p53, List.forall_mem_cons.mpr ⟨lw_p54, List.forall_mem_cons.mpr ⟨lw_p55, List.forall_mem_cons.mpr ⟨lw_p56, List.forall_mem_cons.mpr ⟨lw_p57, List.forall_mem_cons.mpr ⟨lw_p58, fun _ h => absurd h List.not_mem_nil⟩⟩⟩⟩⟩⟩⟩⟩⟩⟩⟩
def lw_privs : List (MethodName × Nat) := lw_privs_1 ++ (lw_privs_2 ++ (lw_privs_3 ++ (lw_privs_4)))
def lw_tbl : List Cond := k2_sels lw_privs ++ tables_1
theorem lw_privs_ok : ∀ q ∈ lw_privs, lw_okq q := by
  show ∀ q ∈ lw_privs_1 ++ (lw_privs_2 ++ (lw_privs_3 ++ (lw_privs_4))), lw_okq q
  exact List.forall_mem_append.mpr ⟨lw_r1, List.forall_mem_append.mpr ⟨lw_r2, List.forall_mem_append.mpr ⟨lw_r3, lw_r4⟩⟩⟩
end
section
def RX0 : String := "FellersOrder$Acting"
def TX0 : u_T := fun k => match k with
  | 0 => ("FellersOrder$Acting", "bodies", "[I", true)
  | 1 => ("FellersOrder$Acting", "begun", "I", false)
  | 2 => ("FellersOrder$Acting", "length", "I", false)
  | 3 => ("FellersOrder$Acting", "weight", "I", false)
  | 4 => ("FellersOrder$Acting", "moment", "I", false)
  | _ => ("FellersOrder$Acting", "ahead", "I", false)
def tyX0 : Nat → FieldType := fun k => match k with
  | 0 => .array .int
  | 1 => .int
  | 2 => .int
  | 3 => .int
  | 4 => .int
  | _ => .int
abbrev wsX00 : List Cond := u_ws RX0 TX0 6
theorem nmX0 : ∀ a, a < 6 → ∀ b, b < 6 → a ≠ b → (TX0 a).2.1 ≠ (TX0 b).2.1 := by decide +kernel
theorem tyX0_ok : ∀ k, k < 6 → parseFieldDescriptor (TX0 k).2.2.1 = some (tyX0 k) := by decide +kernel
abbrev cX0_init : ByteArray := prog_2_method_1_code
def yX0_init : MethodName := ⟨RX0, "<init>", "()V"⟩
abbrev cX0_take : ByteArray := prog_2_method_2_code
def yX0_take : MethodName := ⟨RX0, "take", "(LFellersOrder$Yard;I)V"⟩
abbrev cX0_begin : ByteArray := prog_2_method_3_code
def yX0_begin : MethodName := ⟨RX0, "begin", "(I)V"⟩
abbrev cX0_begun : ByteArray := prog_2_method_4_code
def yX0_begun : MethodName := ⟨RX0, "begun", "()I"⟩
abbrev cX0_bodyAt : ByteArray := prog_2_method_5_code
def yX0_bodyAt : MethodName := ⟨RX0, "bodyAt", "(I)I"⟩
def RX1 : String := "FellersOrder$FirstKind"
def TX1 : u_T := fun k => match k with
  | _ => ("", "", "", false)
def tyX1 : Nat → FieldType := fun k => match k with
  | _ => .int
abbrev wsX10 : List Cond := u_ws RX1 TX1 0
theorem nmX1 : ∀ a, a < 0 → ∀ b, b < 0 → a ≠ b → (TX1 a).2.1 ≠ (TX1 b).2.1 := by decide +kernel
theorem tyX1_ok : ∀ k, k < 0 → parseFieldDescriptor (TX1 k).2.2.1 = some (tyX1 k) := by decide +kernel
abbrev cX1_init : ByteArray := prog_3_method_1_code
def yX1_init : MethodName := ⟨RX1, "<init>", "()V"⟩
abbrev cX1_follow : ByteArray := prog_3_method_2_code
def yX1_follow : MethodName := ⟨RX1, "follow", "(LFellersOrder$Acting;I)I"⟩
abbrev cX1_last : ByteArray := prog_3_method_3_code
def yX1_last : MethodName := ⟨RX1, "last", "(LFellersOrder$Acting;I)I"⟩
def RX2 : String := "FellersOrder$History"
def TX2 : u_T := fun k => match k with
  | 0 => ("FellersOrder$History", "change", "[I", true)
  | 1 => ("FellersOrder$History", "first", "[I", true)
  | 2 => ("FellersOrder$History", "second", "[I", true)
  | 3 => ("FellersOrder$History", "former", "[I", true)
  | 4 => ("FellersOrder$History", "next", "I", false)
  | _ => ("FellersOrder$History", "size", "I", false)
def tyX2 : Nat → FieldType := fun k => match k with
  | 0 => .array .int
  | 1 => .array .int
  | 2 => .array .int
  | 3 => .array .int
  | 4 => .int
  | _ => .int
abbrev wsX20 : List Cond := u_ws RX2 TX2 6
theorem nmX2 : ∀ a, a < 6 → ∀ b, b < 6 → a ≠ b → (TX2 a).2.1 ≠ (TX2 b).2.1 := by decide +kernel
theorem tyX2_ok : ∀ k, k < 6 → parseFieldDescriptor (TX2 k).2.2.1 = some (tyX2 k) := by decide +kernel
abbrev cX2_init : ByteArray := prog_4_method_1_code
def yX2_init : MethodName := ⟨RX2, "<init>", "()V"⟩
abbrev cX2_size : ByteArray := prog_4_method_2_code
def yX2_size : MethodName := ⟨RX2, "size", "()I"⟩
abbrev cX2_keep : ByteArray := prog_4_method_3_code
def yX2_keep : MethodName := ⟨RX2, "keep", "(IIII)V"⟩
abbrev cX2_takeBack : ByteArray := prog_4_method_4_code
def yX2_takeBack : MethodName := ⟨RX2, "takeBack", "(LFellersOrder$Yard;)V"⟩
def RX3 : String := "FellersOrder$IdleKind"
def TX3 : u_T := fun k => match k with
  | _ => ("", "", "", false)
def tyX3 : Nat → FieldType := fun k => match k with
  | _ => .int
abbrev wsX30 : List Cond := u_ws RX3 TX3 0
theorem nmX3 : ∀ a, a < 0 → ∀ b, b < 0 → a ≠ b → (TX3 a).2.1 ≠ (TX3 b).2.1 := by decide +kernel
theorem tyX3_ok : ∀ k, k < 0 → parseFieldDescriptor (TX3 k).2.2.1 = some (tyX3 k) := by decide +kernel
abbrev cX3_init : ByteArray := prog_5_method_1_code
def yX3_init : MethodName := ⟨RX3, "<init>", "()V"⟩
abbrev cX3_weigh : ByteArray := prog_5_method_2_code
def yX3_weigh : MethodName := ⟨RX3, "weigh", "(LFellersOrder$Acting;I)I"⟩
def RX4 : String := "FellersOrder$JobKind"
def TX4 : u_T := fun k => match k with
  | _ => ("", "", "", false)
def tyX4 : Nat → FieldType := fun k => match k with
  | _ => .int
abbrev wsX40 : List Cond := u_ws RX4 TX4 0
theorem nmX4 : ∀ a, a < 0 → ∀ b, b < 0 → a ≠ b → (TX4 a).2.1 ≠ (TX4 b).2.1 := by decide +kernel
theorem tyX4_ok : ∀ k, k < 0 → parseFieldDescriptor (TX4 k).2.2.1 = some (tyX4 k) := by decide +kernel
abbrev cX4_init : ByteArray := prog_6_method_1_code
def yX4_init : MethodName := ⟨RX4, "<init>", "()V"⟩
abbrev cX4_last : ByteArray := prog_6_method_2_code
def yX4_last : MethodName := ⟨RX4, "last", "(LFellersOrder$Acting;I)I"⟩
abbrev cX4_weigh : ByteArray := prog_6_method_3_code
def yX4_weigh : MethodName := ⟨RX4, "weigh", "(LFellersOrder$Acting;I)I"⟩
abbrev cX4_follow : ByteArray := prog_6_method_4_code
def yX4_follow : MethodName := ⟨RX4, "follow", "(LFellersOrder$Acting;I)I"⟩
abbrev cX4_tell : ByteArray := prog_6_method_5_code
def yX4_tell : MethodName := ⟨RX4, "tell", "(LFellersOrder$Acting;I)I"⟩
def RX5 : String := "FellersOrder$LateKind"
def TX5 : u_T := fun k => match k with
  | _ => ("", "", "", false)
def tyX5 : Nat → FieldType := fun k => match k with
  | _ => .int
abbrev wsX50 : List Cond := u_ws RX5 TX5 0
theorem nmX5 : ∀ a, a < 0 → ∀ b, b < 0 → a ≠ b → (TX5 a).2.1 ≠ (TX5 b).2.1 := by decide +kernel
theorem tyX5_ok : ∀ k, k < 0 → parseFieldDescriptor (TX5 k).2.2.1 = some (tyX5 k) := by decide +kernel
abbrev cX5_init : ByteArray := prog_7_method_1_code
def yX5_init : MethodName := ⟨RX5, "<init>", "()V"⟩
abbrev cX5_last : ByteArray := prog_7_method_2_code
def yX5_last : MethodName := ⟨RX5, "last", "(LFellersOrder$Acting;I)I"⟩
abbrev cX5_tell : ByteArray := prog_7_method_3_code
def yX5_tell : MethodName := ⟨RX5, "tell", "(LFellersOrder$Acting;I)I"⟩
def RX6 : String := "FellersOrder$Line"
def TX6 : u_T := fun k => match k with
  | 0 => ("FellersOrder$Line", "row", "[I", true)
  | _ => ("FellersOrder$Line", "size", "I", false)
def tyX6 : Nat → FieldType := fun k => match k with
  | 0 => .array .int
  | _ => .int
abbrev wsX60 : List Cond := u_ws RX6 TX6 2
theorem nmX6 : ∀ a, a < 2 → ∀ b, b < 2 → a ≠ b → (TX6 a).2.1 ≠ (TX6 b).2.1 := by decide +kernel
theorem tyX6_ok : ∀ k, k < 2 → parseFieldDescriptor (TX6 k).2.2.1 = some (tyX6 k) := by decide +kernel
abbrev cX6_init : ByteArray := prog_8_method_1_code
def yX6_init : MethodName := ⟨RX6, "<init>", "()V"⟩
abbrev cX6_size : ByteArray := prog_8_method_2_code
def yX6_size : MethodName := ⟨RX6, "size", "()I"⟩
abbrev cX6_jobAt : ByteArray := prog_8_method_3_code
def yX6_jobAt : MethodName := ⟨RX6, "jobAt", "(I)I"⟩
abbrev cX6_empty : ByteArray := prog_8_method_4_code
def yX6_empty : MethodName := ⟨RX6, "empty", "()V"⟩
abbrev cX6_append : ByteArray := prog_8_method_5_code
def yX6_append : MethodName := ⟨RX6, "append", "(I)V"⟩
abbrev cX6_exchange : ByteArray := prog_8_method_6_code
def yX6_exchange : MethodName := ⟨RX6, "exchange", "(I)V"⟩
abbrev cX6_placeOf : ByteArray := prog_8_method_7_code
def yX6_placeOf : MethodName := ⟨RX6, "placeOf", "(I)I"⟩
abbrev cX6_bitsBefore : ByteArray := prog_8_method_8_code
def yX6_bitsBefore : MethodName := ⟨RX6, "bitsBefore", "(I)I"⟩
abbrev cX6_lackingAt : ByteArray := prog_8_method_9_code
def yX6_lackingAt : MethodName := ⟨RX6, "lackingAt", "(LFellersOrder$Yard;I)I"⟩
abbrev cX6_firstLacking : ByteArray := prog_8_method_10_code
def yX6_firstLacking : MethodName := ⟨RX6, "firstLacking", "(LFellersOrder$Yard;)I"⟩
abbrev cX6_isKept : ByteArray := prog_8_method_11_code
def yX6_isKept : MethodName := ⟨RX6, "isKept", "(LFellersOrder$Yard;)Z"⟩
abbrev cX6_weightedWaiting : ByteArray := prog_8_method_12_code
def yX6_weightedWaiting : MethodName := ⟨RX6, "weightedWaiting", "(LFellersOrder$Yard;)I"⟩
def RX7 : String := "FellersOrder$Plan"
def TX7 : u_T := fun k => match k with
  | 0 => ("FellersOrder$Plan", "blockBits", "[I", true)
  | 1 => ("FellersOrder$Plan", "blocks", "I", false)
  | 2 => ("FellersOrder$Plan", "blocksVersion", "I", false)
  | 3 => ("FellersOrder$Plan", "costBehind", "[I", true)
  | 4 => ("FellersOrder$Plan", "ordersBehind", "[I", true)
  | 5 => ("FellersOrder$Plan", "bestRow", "[I", true)
  | 6 => ("FellersOrder$Plan", "ordersVersion", "I", false)
  | 7 => ("FellersOrder$Plan", "sometimesBehind", "[I", true)
  | _ => ("FellersOrder$Plan", "standingVersion", "I", false)
def tyX7 : Nat → FieldType := fun k => match k with
  | 0 => .array .int
  | 1 => .int
  | 2 => .int
  | 3 => .array .int
  | 4 => .array .int
  | 5 => .array .int
  | 6 => .int
  | 7 => .array .int
  | _ => .int
abbrev wsX70 : List Cond := u_ws RX7 TX7 9
theorem nmX7 : ∀ a, a < 9 → ∀ b, b < 9 → a ≠ b → (TX7 a).2.1 ≠ (TX7 b).2.1 := by decide +kernel
theorem tyX7_ok : ∀ k, k < 9 → parseFieldDescriptor (TX7 k).2.2.1 = some (tyX7 k) := by decide +kernel
abbrev cX7_init : ByteArray := prog_9_method_1_code
def yX7_init : MethodName := ⟨RX7, "<init>", "()V"⟩
abbrev cX7_blocks : ByteArray := prog_9_method_2_code
def yX7_blocks : MethodName := ⟨RX7, "blocks", "(LFellersOrder$Yard;)I"⟩
abbrev cX7_blockBits : ByteArray := prog_9_method_3_code
def yX7_blockBits : MethodName := ⟨RX7, "blockBits", "(I)I"⟩
abbrev cX7_blockOf : ByteArray := prog_9_method_4_code
def yX7_blockOf : MethodName := ⟨RX7, "blockOf", "(LFellersOrder$Yard;I)I"⟩
abbrev cX7_leastCost : ByteArray := prog_9_method_5_code
def yX7_leastCost : MethodName := ⟨RX7, "leastCost", "(LFellersOrder$Yard;)I"⟩
abbrev cX7_bestOrders : ByteArray := prog_9_method_6_code
def yX7_bestOrders : MethodName := ⟨RX7, "bestOrders", "(LFellersOrder$Yard;)I"⟩
abbrev cX7_bestAt : ByteArray := prog_9_method_7_code
def yX7_bestAt : MethodName := ⟨RX7, "bestAt", "(LFellersOrder$Yard;I)I"⟩
abbrev cX7_mayStandAhead : ByteArray := prog_9_method_8_code
def yX7_mayStandAhead : MethodName := ⟨RX7, "mayStandAhead", "(LFellersOrder$Yard;II)Z"⟩
abbrev cX7_findBlocks : ByteArray := prog_9_method_9_code
def yX7_findBlocks : MethodName := ⟨RX7, "findBlocks", "(LFellersOrder$Yard;)V"⟩
abbrev cX7_findBlock : ByteArray := prog_9_method_10_code
def yX7_findBlock : MethodName := ⟨RX7, "findBlock", "(LFellersOrder$Yard;I)I"⟩
abbrev cX7_findOrders : ByteArray := prog_9_method_11_code
def yX7_findOrders : MethodName := ⟨RX7, "findOrders", "(LFellersOrder$Yard;)V"⟩
abbrev cX7_goOnFrom : ByteArray := prog_9_method_12_code
def yX7_goOnFrom : MethodName := ⟨RX7, "goOnFrom", "(LFellersOrder$Yard;I)V"⟩
abbrev cX7_isBestNext : ByteArray := prog_9_method_13_code
def yX7_isBestNext : MethodName := ⟨RX7, "isBestNext", "(LFellersOrder$Yard;II)Z"⟩
abbrev cX7_readBestRow : ByteArray := prog_9_method_14_code
def yX7_readBestRow : MethodName := ⟨RX7, "readBestRow", "(LFellersOrder$Yard;)V"⟩
abbrev cX7_leastBestNext : ByteArray := prog_9_method_15_code
def yX7_leastBestNext : MethodName := ⟨RX7, "leastBestNext", "(LFellersOrder$Yard;I)I"⟩
abbrev cX7_findStanding : ByteArray := prog_9_method_16_code
def yX7_findStanding : MethodName := ⟨RX7, "findStanding", "(LFellersOrder$Yard;)V"⟩
abbrev cX7_beginsBestOrder : ByteArray := prog_9_method_17_code
def yX7_beginsBestOrder : MethodName := ⟨RX7, "beginsBestOrder", "(LFellersOrder$Yard;I)Z"⟩
abbrev cX7_noteStanding : ByteArray := prog_9_method_18_code
def yX7_noteStanding : MethodName := ⟨RX7, "noteStanding", "(LFellersOrder$Yard;I)V"⟩
def RX8 : String := "FellersOrder$Sheet"
def TX8 : u_T := fun k => match k with
  | 0 => ("FellersOrder$Sheet", "numbers", "[I", true)
  | 1 => ("FellersOrder$Sheet", "sort", "I", false)
  | _ => ("FellersOrder$Sheet", "size", "I", false)
def tyX8 : Nat → FieldType := fun k => match k with
  | 0 => .array .int
  | 1 => .int
  | _ => .int
abbrev wsX80 : List Cond := u_ws RX8 TX8 3
theorem nmX8 : ∀ a, a < 3 → ∀ b, b < 3 → a ≠ b → (TX8 a).2.1 ≠ (TX8 b).2.1 := by decide +kernel
theorem tyX8_ok : ∀ k, k < 3 → parseFieldDescriptor (TX8 k).2.2.1 = some (tyX8 k) := by decide +kernel
abbrev cX8_init : ByteArray := prog_10_method_1_code
def yX8_init : MethodName := ⟨RX8, "<init>", "()V"⟩
abbrev cX8_isMissing : ByteArray := prog_10_method_2_code
def yX8_isMissing : MethodName := ⟨RX8, "isMissing", "()Z"⟩
abbrev cX8_isOfSort : ByteArray := prog_10_method_3_code
def yX8_isOfSort : MethodName := ⟨RX8, "isOfSort", "(I)Z"⟩
abbrev cX8_size : ByteArray := prog_10_method_4_code
def yX8_size : MethodName := ⟨RX8, "size", "()I"⟩
abbrev cX8_numberAt : ByteArray := prog_10_method_5_code
def yX8_numberAt : MethodName := ⟨RX8, "numberAt", "(I)I"⟩
abbrev cX8_make : ByteArray := prog_10_method_6_code
def yX8_make : MethodName := ⟨RX8, "make", "(II)V"⟩
abbrev cX8_remove : ByteArray := prog_10_method_7_code
def yX8_remove : MethodName := ⟨RX8, "remove", "()V"⟩
abbrev cX8_write : ByteArray := prog_10_method_8_code
def yX8_write : MethodName := ⟨RX8, "write", "(II)V"⟩
abbrev cX8_refusalAs : ByteArray := prog_10_method_9_code
def yX8_refusalAs : MethodName := ⟨RX8, "refusalAs", "(I)I"⟩
abbrev cX8_sumFrom : ByteArray := prog_10_method_10_code
def yX8_sumFrom : MethodName := ⟨RX8, "sumFrom", "(II)I"⟩
def RX9 : String := "FellersOrder$UnitKind"
def TX9 : u_T := fun k => match k with
  | _ => ("", "", "", false)
def tyX9 : Nat → FieldType := fun k => match k with
  | _ => .int
abbrev wsX90 : List Cond := u_ws RX9 TX9 0
theorem nmX9 : ∀ a, a < 0 → ∀ b, b < 0 → a ≠ b → (TX9 a).2.1 ≠ (TX9 b).2.1 := by decide +kernel
theorem tyX9_ok : ∀ k, k < 0 → parseFieldDescriptor (TX9 k).2.2.1 = some (tyX9 k) := by decide +kernel
abbrev cX9_init : ByteArray := prog_11_method_1_code
def yX9_init : MethodName := ⟨RX9, "<init>", "()V"⟩
abbrev cX9_last : ByteArray := prog_11_method_2_code
def yX9_last : MethodName := ⟨RX9, "last", "(LFellersOrder$Acting;I)I"⟩
abbrev cX9_tell : ByteArray := prog_11_method_3_code
def yX9_tell : MethodName := ⟨RX9, "tell", "(LFellersOrder$Acting;I)I"⟩
def RX10 : String := "FellersOrder$Yard"
def TX10 : u_T := fun k => match k with
  | 0 => ("FellersOrder$Yard", "measures", "[[I", true)
  | 1 => ("FellersOrder$Yard", "laid", "[I", true)
  | 2 => ("FellersOrder$Yard", "ahead", "[I", true)
  | 3 => ("FellersOrder$Yard", "behind", "[I", true)
  | 4 => ("FellersOrder$Yard", "lengths", "[I", true)
  | 5 => ("FellersOrder$Yard", "weights", "[I", true)
  | 6 => ("FellersOrder$Yard", "needs", "[I", true)
  | 7 => ("FellersOrder$Yard", "jobs", "I", false)
  | 8 => ("FellersOrder$Yard", "laidPairs", "I", false)
  | _ => ("FellersOrder$Yard", "version", "I", false)
def tyX10 : Nat → FieldType := fun k => match k with
  | 0 => .array (.array .int)
  | 1 => .array .int
  | 2 => .array .int
  | 3 => .array .int
  | 4 => .array .int
  | 5 => .array .int
  | 6 => .array .int
  | 7 => .int
  | 8 => .int
  | _ => .int
abbrev wsX100 : List Cond := u_ws RX10 TX10 10
theorem nmX10 : ∀ a, a < 10 → ∀ b, b < 10 → a ≠ b → (TX10 a).2.1 ≠ (TX10 b).2.1 := by decide +kernel
theorem tyX10_ok : ∀ k, k < 10 → parseFieldDescriptor (TX10 k).2.2.1 = some (tyX10 k) := by decide +kernel
abbrev cX10_init : ByteArray := prog_12_method_1_code
def yX10_init : MethodName := ⟨RX10, "<init>", "()V"⟩
abbrev cX10_allows : ByteArray := prog_12_method_2_code
def yX10_allows : MethodName := ⟨RX10, "allows", "(II)Z"⟩
abbrev cX10_jobOfCrossing : ByteArray := prog_12_method_3_code
def yX10_jobOfCrossing : MethodName := ⟨RX10, "jobOfCrossing", "(II)I"⟩
abbrev cX10_has : ByteArray := prog_12_method_4_code
def yX10_has : MethodName := ⟨RX10, "has", "(I)Z"⟩
abbrev cX10_isFull : ByteArray := prog_12_method_5_code
def yX10_isFull : MethodName := ⟨RX10, "isFull", "()Z"⟩
abbrev cX10_jobs : ByteArray := prog_12_method_6_code
def yX10_jobs : MethodName := ⟨RX10, "jobs", "()I"⟩
abbrev cX10_laidPairs : ByteArray := prog_12_method_7_code
def yX10_laidPairs : MethodName := ⟨RX10, "laidPairs", "()I"⟩
abbrev cX10_version : ByteArray := prog_12_method_8_code
def yX10_version : MethodName := ⟨RX10, "version", "()I"⟩
abbrev cX10_everyJob : ByteArray := prog_12_method_9_code
def yX10_everyJob : MethodName := ⟨RX10, "everyJob", "()I"⟩
abbrev cX10_measure : ByteArray := prog_12_method_10_code
def yX10_measure : MethodName := ⟨RX10, "measure", "(II)I"⟩
abbrev cX10_aheadOf : ByteArray := prog_12_method_11_code
def yX10_aheadOf : MethodName := ⟨RX10, "aheadOf", "(I)I"⟩
abbrev cX10_behind : ByteArray := prog_12_method_12_code
def yX10_behind : MethodName := ⟨RX10, "behind", "(I)I"⟩
abbrev cX10_isLaid : ByteArray := prog_12_method_13_code
def yX10_isLaid : MethodName := ⟨RX10, "isLaid", "(II)Z"⟩
abbrev cX10_isAhead : ByteArray := prog_12_method_14_code
def yX10_isAhead : MethodName := ⟨RX10, "isAhead", "(II)Z"⟩
abbrev cX10_add : ByteArray := prog_12_method_15_code
def yX10_add : MethodName := ⟨RX10, "add", "(II)I"⟩
abbrev cX10_removeLast : ByteArray := prog_12_method_16_code
def yX10_removeLast : MethodName := ⟨RX10, "removeLast", "()V"⟩
abbrev cX10_measureAnew : ByteArray := prog_12_method_17_code
def yX10_measureAnew : MethodName := ⟨RX10, "measureAnew", "(III)V"⟩
abbrev cX10_bind : ByteArray := prog_12_method_18_code
def yX10_bind : MethodName := ⟨RX10, "bind", "(II)V"⟩
abbrev cX10_unbind : ByteArray := prog_12_method_19_code
def yX10_unbind : MethodName := ⟨RX10, "unbind", "(II)V"⟩
abbrev cX10_kindOf : ByteArray := prog_12_method_20_code
def yX10_kindOf : MethodName := ⟨RX10, "kindOf", "(I)I"⟩
abbrev cX10_lengthOf : ByteArray := prog_12_method_21_code
def yX10_lengthOf : MethodName := ⟨RX10, "lengthOf", "(I)I"⟩
abbrev cX10_weightOf : ByteArray := prog_12_method_22_code
def yX10_weightOf : MethodName := ⟨RX10, "weightOf", "(I)I"⟩
abbrev cX10_isBeginning : ByteArray := prog_12_method_23_code
def yX10_isBeginning : MethodName := ⟨RX10, "isBeginning", "(II)Z"⟩
abbrev cX10_mayComeNext : ByteArray := prog_12_method_24_code
def yX10_mayComeNext : MethodName := ⟨RX10, "mayComeNext", "(II)Z"⟩
abbrev cX10_costNext : ByteArray := prog_12_method_25_code
def yX10_costNext : MethodName := ⟨RX10, "costNext", "(II)I"⟩
abbrev cX10_beginnings : ByteArray := prog_12_method_26_code
def yX10_beginnings : MethodName := ⟨RX10, "beginnings", "()I"⟩
abbrev cX10_findCrossing : ByteArray := prog_12_method_27_code
def yX10_findCrossing : MethodName := ⟨RX10, "findCrossing", "()I"⟩
abbrev cX10_findEnds : ByteArray := prog_12_method_28_code
def yX10_findEnds : MethodName := ⟨RX10, "findEnds", "(II)I"⟩
abbrev cX10_unbound : ByteArray := prog_12_method_29_code
def yX10_unbound : MethodName := ⟨RX10, "unbound", "(I)I"⟩
abbrev cX10_renew : ByteArray := prog_12_method_30_code
def yX10_renew : MethodName := ⟨RX10, "renew", "()V"⟩
abbrev cX10_followLaid : ByteArray := prog_12_method_31_code
def yX10_followLaid : MethodName := ⟨RX10, "followLaid", "()V"⟩
abbrev cX10_turnBehind : ByteArray := prog_12_method_32_code
def yX10_turnBehind : MethodName := ⟨RX10, "turnBehind", "()V"⟩
abbrev cX10_sumHalf : ByteArray := prog_12_method_33_code
def yX10_sumHalf : MethodName := ⟨RX10, "sumHalf", "(II)V"⟩
def RX11 : String := "FellersOrder"
def TX11 : u_T := fun k => match k with
  | 0 => ("FellersOrder", "yard", "LFellersOrder$Yard;", true)
  | 1 => ("FellersOrder", "plan", "LFellersOrder$Plan;", true)
  | 2 => ("FellersOrder", "line", "LFellersOrder$Line;", true)
  | 3 => ("FellersOrder", "history", "LFellersOrder$History;", true)
  | 4 => ("FellersOrder", "acting", "LFellersOrder$Acting;", true)
  | 5 => ("FellersOrder", "kinds", "[LFellersOrder$JobKind;", true)
  | 6 => ("FellersOrder", "sheets", "[LFellersOrder$Sheet;", true)
  | _ => ("FellersOrder", "latest", "I", false)
def tyX11 : Nat → FieldType := fun k => match k with
  | 0 => .object "FellersOrder$Yard"
  | 1 => .object "FellersOrder$Plan"
  | 2 => .object "FellersOrder$Line"
  | 3 => .object "FellersOrder$History"
  | 4 => .object "FellersOrder$Acting"
  | 5 => .array (.object "FellersOrder$JobKind")
  | 6 => .array (.object "FellersOrder$Sheet")
  | _ => .int
abbrev wsX110 : List Cond := u_ws RX11 TX11 8
theorem nmX11 : ∀ a, a < 8 → ∀ b, b < 8 → a ≠ b → (TX11 a).2.1 ≠ (TX11 b).2.1 := by decide +kernel
theorem tyX11_ok : ∀ k, k < 8 → parseFieldDescriptor (TX11 k).2.2.1 = some (tyX11 k) := by decide +kernel
abbrev cX11_init : ByteArray := prog_1_method_1_code
def yX11_init : MethodName := ⟨RX11, "<init>", "()V"⟩
abbrev cX11_job : ByteArray := prog_1_method_2_code
def yX11_job : MethodName := ⟨RX11, "job", "(II)I"⟩
abbrev cX11_set : ByteArray := prog_1_method_3_code
def yX11_set : MethodName := ⟨RX11, "set", "(III)I"⟩
abbrev cX11_lay : ByteArray := prog_1_method_4_code
def yX11_lay : MethodName := ⟨RX11, "lay", "(II)I"⟩
abbrev cX11_free : ByteArray := prog_1_method_5_code
def yX11_free : MethodName := ⟨RX11, "free", "(II)I"⟩
abbrev cX11_put : ByteArray := prog_1_method_6_code
def yX11_put : MethodName := ⟨RX11, "put", "(I)I"⟩
abbrev cX11_clear : ByteArray := prog_1_method_7_code
def yX11_clear : MethodName := ⟨RX11, "clear", "()I"⟩
abbrev cX11_told : ByteArray := prog_1_method_8_code
def yX11_told : MethodName := ⟨RX11, "told", "(II)I"⟩
abbrev cX11_ahead : ByteArray := prog_1_method_9_code
def yX11_ahead : MethodName := ⟨RX11, "ahead", "(II)I"⟩
abbrev cX11_count : ByteArray := prog_1_method_10_code
def yX11_count : MethodName := ⟨RX11, "count", "(I)I"⟩
abbrev cX11_keeps : ByteArray := prog_1_method_11_code
def yX11_keeps : MethodName := ⟨RX11, "keeps", "()I"⟩
abbrev cX11_why : ByteArray := prog_1_method_12_code
def yX11_why : MethodName := ⟨RX11, "why", "(I)I"⟩
abbrev cX11_cost : ByteArray := prog_1_method_13_code
def yX11_cost : MethodName := ⟨RX11, "cost", "()I"⟩
abbrev cX11_swap : ByteArray := prog_1_method_14_code
def yX11_swap : MethodName := ⟨RX11, "swap", "(I)I"⟩
abbrev cX11_block : ByteArray := prog_1_method_15_code
def yX11_block : MethodName := ⟨RX11, "block", "(II)I"⟩
abbrev cX11_least : ByteArray := prog_1_method_16_code
def yX11_least : MethodName := ⟨RX11, "least", "()I"⟩
abbrev cX11_best : ByteArray := prog_1_method_17_code
def yX11_best : MethodName := ⟨RX11, "best", "(I)I"⟩
abbrev cX11_many : ByteArray := prog_1_method_18_code
def yX11_many : MethodName := ⟨RX11, "many", "()I"⟩
abbrev cX11_fixed : ByteArray := prog_1_method_19_code
def yX11_fixed : MethodName := ⟨RX11, "fixed", "(II)I"⟩
abbrev cX11_series : ByteArray := prog_1_method_20_code
def yX11_series : MethodName := ⟨RX11, "series", "()I"⟩
abbrev cX11_shows : ByteArray := prog_1_method_21_code
def yX11_shows : MethodName := ⟨RX11, "shows", "(I)I"⟩
abbrev cX11_turned : ByteArray := prog_1_method_22_code
def yX11_turned : MethodName := ⟨RX11, "turned", "()I"⟩
abbrev cX11_act : ByteArray := prog_1_method_23_code
def yX11_act : MethodName := ⟨RX11, "act", "(III)I"⟩
abbrev cX11_trace : ByteArray := prog_1_method_24_code
def yX11_trace : MethodName := ⟨RX11, "trace", "(I)I"⟩
abbrev cX11_sheet : ByteArray := prog_1_method_25_code
def yX11_sheet : MethodName := ⟨RX11, "sheet", "(III)I"⟩
abbrev cX11_cell : ByteArray := prog_1_method_26_code
def yX11_cell : MethodName := ⟨RX11, "cell", "(III)I"⟩
abbrev cX11_fromSheet : ByteArray := prog_1_method_27_code
def yX11_fromSheet : MethodName := ⟨RX11, "fromSheet", "(III)I"⟩
abbrev cX11_forge : ByteArray := prog_1_method_28_code
def yX11_forge : MethodName := ⟨RX11, "forge", "(III)I"⟩
abbrev cX11_undo : ByteArray := prog_1_method_29_code
def yX11_undo : MethodName := ⟨RX11, "undo", "()I"⟩
abbrev cX11_status : ByteArray := prog_1_method_30_code
def yX11_status : MethodName := ⟨RX11, "status", "()I"⟩
abbrev cX11_done : ByteArray := prog_1_method_31_code
def yX11_done : MethodName := ⟨RX11, "done", "(I)I"⟩
abbrev cX11_refused : ByteArray := prog_1_method_32_code
def yX11_refused : MethodName := ⟨RX11, "refused", "(I)I"⟩
abbrev cX11_bringJob : ByteArray := prog_1_method_33_code
def yX11_bringJob : MethodName := ⟨RX11, "bringJob", "(II)I"⟩
abbrev cX11_forgeSize : ByteArray := prog_1_method_34_code
def yX11_forgeSize : MethodName := ⟨RX11, "forgeSize", "(LFellersOrder$Sheet;I)I"⟩
abbrev cX11_forgeCopy : ByteArray := prog_1_method_35_code
def yX11_forgeCopy : MethodName := ⟨RX11, "forgeCopy", "(LFellersOrder$Sheet;I)I"⟩
abbrev cX11_forgeLaying : ByteArray := prog_1_method_36_code
def yX11_forgeLaying : MethodName := ⟨RX11, "forgeLaying", "(LFellersOrder$Sheet;)I"⟩
abbrev cX11_forgeUnit : ByteArray := prog_1_method_37_code
def yX11_forgeUnit : MethodName := ⟨RX11, "forgeUnit", "(I)I"⟩
abbrev cX11_isSheet : ByteArray := prog_1_method_38_code
def yX11_isSheet : MethodName := ⟨RX11, "isSheet", "(I)Z"⟩
abbrev cX11_asNumber : ByteArray := prog_1_method_39_code
def yX11_asNumber : MethodName := ⟨RX11, "asNumber", "(Z)I"⟩
abbrev cX11_hasBit : ByteArray := prog_1_method_40_code
def yX11_hasBit : MethodName := ⟨RX11, "hasBit", "(II)Z"⟩
def RX12 : String := "FellersOrderModel"
def TX12 : u_T := fun k => match k with
  | 0 => ("FellersOrderModel", "jobs", "I", false)
  | 1 => ("FellersOrderModel", "length", "[I", true)
  | 2 => ("FellersOrderModel", "weight", "[I", true)
  | 3 => ("FellersOrderModel", "moment", "[I", true)
  | 4 => ("FellersOrderModel", "laid", "[I", true)
  | 5 => ("FellersOrderModel", "must", "[I", true)
  | 6 => ("FellersOrderModel", "order", "[I", true)
  | 7 => ("FellersOrderModel", "ordered", "I", false)
  | 8 => ("FellersOrderModel", "changes", "I", false)
  | 9 => ("FellersOrderModel", "wasJobs", "[I", true)
  | 10 => ("FellersOrderModel", "was", "[I", true)
  | 11 => ("FellersOrderModel", "sort", "[I", true)
  | 12 => ("FellersOrderModel", "size", "[I", true)
  | 13 => ("FellersOrderModel", "cells", "[J", true)
  | 14 => ("FellersOrderModel", "status", "I", false)
  | 15 => ("FellersOrderModel", "traced", "[I", true)
  | 16 => ("FellersOrderModel", "traces", "I", false)
  | 17 => ("FellersOrderModel", "lacks", "I", false)
  | 18 => ("FellersOrderModel", "setLength", "[I", true)
  | 19 => ("FellersOrderModel", "forwards", "[I", true)
  | 20 => ("FellersOrderModel", "ways", "[I", true)
  | 21 => ("FellersOrderModel", "backwards", "[I", true)
  | 22 => ("FellersOrderModel", "l", "[I", true)
  | 23 => ("FellersOrderModel", "w", "[I", true)
  | 24 => ("FellersOrderModel", "m", "[I", true)
  | 25 => ("FellersOrderModel", "blocks", "I", false)
  | _ => ("FellersOrderModel", "blockOf", "[I", true)
def tyX12 : Nat → FieldType := fun k => match k with
  | 0 => .int
  | 1 => .array .int
  | 2 => .array .int
  | 3 => .array .int
  | 4 => .array .int
  | 5 => .array .int
  | 6 => .array .int
  | 7 => .int
  | 8 => .int
  | 9 => .array .int
  | 10 => .array .int
  | 11 => .array .int
  | 12 => .array .int
  | 13 => .array .long
  | 14 => .int
  | 15 => .array .int
  | 16 => .int
  | 17 => .int
  | 18 => .array .int
  | 19 => .array .int
  | 20 => .array .int
  | 21 => .array .int
  | 22 => .array .int
  | 23 => .array .int
  | 24 => .array .int
  | 25 => .int
  | _ => .array .int
abbrev wsX120 : List Cond := u_ws RX12 TX12 27
theorem nmX12 : ∀ a, a < 27 → ∀ b, b < 27 → a ≠ b → (TX12 a).2.1 ≠ (TX12 b).2.1 := by decide +kernel
theorem tyX12_ok : ∀ k, k < 27 → parseFieldDescriptor (TX12 k).2.2.1 = some (tyX12 k) := by decide +kernel
abbrev cX12_init : ByteArray := prog_14_method_1_code
def yX12_init : MethodName := ⟨RX12, "<init>", "()V"⟩
abbrev cX12_in : ByteArray := prog_14_method_2_code
def yX12_in : MethodName := ⟨RX12, "in", "(III)Z"⟩
abbrev cX12_refused : ByteArray := prog_14_method_3_code
def yX12_refused : MethodName := ⟨RX12, "refused", "(I)I"⟩
abbrev cX12_done : ByteArray := prog_14_method_4_code
def yX12_done : MethodName := ⟨RX12, "done", "(I)I"⟩
abbrev cX12_isJob : ByteArray := prog_14_method_5_code
def yX12_isJob : MethodName := ⟨RX12, "isJob", "(I)Z"⟩
abbrev cX12_has : ByteArray := prog_14_method_6_code
def yX12_has : MethodName := ⟨RX12, "has", "(II)Z"⟩
abbrev cX12_bits : ByteArray := prog_14_method_7_code
def yX12_bits : MethodName := ⟨RX12, "bits", "(I)I"⟩
abbrev cX12_close : ByteArray := prog_14_method_8_code
def yX12_close : MethodName := ⟨RX12, "close", "()V"⟩
abbrev cX12_keep : ByteArray := prog_14_method_9_code
def yX12_keep : MethodName := ⟨RX12, "keep", "()V"⟩
abbrev cX12_undo : ByteArray := prog_14_method_10_code
def yX12_undo : MethodName := ⟨RX12, "undo", "()I"⟩
abbrev cX12_made : ByteArray := prog_14_method_11_code
def yX12_made : MethodName := ⟨RX12, "made", "(II)I"⟩
abbrev cX12_job : ByteArray := prog_14_method_12_code
def yX12_job : MethodName := ⟨RX12, "job", "(II)I"⟩
abbrev cX12_set : ByteArray := prog_14_method_13_code
def yX12_set : MethodName := ⟨RX12, "set", "(III)I"⟩
abbrev cX12_lay : ByteArray := prog_14_method_14_code
def yX12_lay : MethodName := ⟨RX12, "lay", "(II)I"⟩
abbrev cX12_free : ByteArray := prog_14_method_15_code
def yX12_free : MethodName := ⟨RX12, "free", "(II)I"⟩
abbrev cX12_placeOf : ByteArray := prog_14_method_16_code
def yX12_placeOf : MethodName := ⟨RX12, "placeOf", "(I)I"⟩
abbrev cX12_put : ByteArray := prog_14_method_17_code
def yX12_put : MethodName := ⟨RX12, "put", "(I)I"⟩
abbrev cX12_clear : ByteArray := prog_14_method_18_code
def yX12_clear : MethodName := ⟨RX12, "clear", "()I"⟩
abbrev cX12_lacking : ByteArray := prog_14_method_19_code
def yX12_lacking : MethodName := ⟨RX12, "lacking", "()I"⟩
abbrev cX12_lowest : ByteArray := prog_14_method_20_code
def yX12_lowest : MethodName := ⟨RX12, "lowest", "(I)I"⟩
abbrev cX12_keeps : ByteArray := prog_14_method_21_code
def yX12_keeps : MethodName := ⟨RX12, "keeps", "()I"⟩
abbrev cX12_why : ByteArray := prog_14_method_22_code
def yX12_why : MethodName := ⟨RX12, "why", "(I)I"⟩
abbrev cX12_cost : ByteArray := prog_14_method_23_code
def yX12_cost : MethodName := ⟨RX12, "cost", "()I"⟩
abbrev cX12_change : ByteArray := prog_14_method_24_code
def yX12_change : MethodName := ⟨RX12, "change", "(I)V"⟩
abbrev cX12_swap : ByteArray := prog_14_method_25_code
def yX12_swap : MethodName := ⟨RX12, "swap", "(I)I"⟩
abbrev cX12_yard : ByteArray := prog_14_method_26_code
def yX12_yard : MethodName := ⟨RX12, "yard", "(Z)V"⟩
abbrev cX12_all : ByteArray := prog_14_method_27_code
def yX12_all : MethodName := ⟨RX12, "all", "()I"⟩
abbrev cX12_layAll : ByteArray := prog_14_method_28_code
def yX12_layAll : MethodName := ⟨RX12, "layAll", "()V"⟩
abbrev cX12_goes : ByteArray := prog_14_method_29_code
def yX12_goes : MethodName := ⟨RX12, "goes", "(III)V"⟩
abbrev cX12_look : ByteArray := prog_14_method_30_code
def yX12_look : MethodName := ⟨RX12, "look", "()V"⟩
abbrev cX12_least : ByteArray := prog_14_method_31_code
def yX12_least : MethodName := ⟨RX12, "least", "()I"⟩
abbrev cX12_many : ByteArray := prog_14_method_32_code
def yX12_many : MethodName := ⟨RX12, "many", "()I"⟩
abbrev cX12_best : ByteArray := prog_14_method_33_code
def yX12_best : MethodName := ⟨RX12, "best", "(I)I"⟩
abbrev cX12_fixed : ByteArray := prog_14_method_34_code
def yX12_fixed : MethodName := ⟨RX12, "fixed", "(II)I"⟩
abbrev cX12_turned : ByteArray := prog_14_method_35_code
def yX12_turned : MethodName := ⟨RX12, "turned", "()I"⟩
abbrev cX12_weightOf : ByteArray := prog_14_method_36_code
def yX12_weightOf : MethodName := ⟨RX12, "weightOf", "(I)I"⟩
abbrev cX12_lengthOf : ByteArray := prog_14_method_37_code
def yX12_lengthOf : MethodName := ⟨RX12, "lengthOf", "(I)I"⟩
abbrev cX12_isBeginning : ByteArray := prog_14_method_38_code
def yX12_isBeginning : MethodName := ⟨RX12, "isBeginning", "(II)Z"⟩
abbrev cX12_blockBehind : ByteArray := prog_14_method_39_code
def yX12_blockBehind : MethodName := ⟨RX12, "blockBehind", "(I)I"⟩
abbrev cX12_findBlocks : ByteArray := prog_14_method_40_code
def yX12_findBlocks : MethodName := ⟨RX12, "findBlocks", "()V"⟩
abbrev cX12_block : ByteArray := prog_14_method_41_code
def yX12_block : MethodName := ⟨RX12, "block", "(II)I"⟩
abbrev cX12_kindOf : ByteArray := prog_14_method_42_code
def yX12_kindOf : MethodName := ⟨RX12, "kindOf", "(I)I"⟩
abbrev cX12_behindOf : ByteArray := prog_14_method_43_code
def yX12_behindOf : MethodName := ⟨RX12, "behindOf", "(I)I"⟩
abbrev cX12_blockWith : ByteArray := prog_14_method_44_code
def yX12_blockWith : MethodName := ⟨RX12, "blockWith", "(I)I"⟩
abbrev cX12_told : ByteArray := prog_14_method_45_code
def yX12_told : MethodName := ⟨RX12, "told", "(II)I"⟩
abbrev cX12_ahead : ByteArray := prog_14_method_46_code
def yX12_ahead : MethodName := ⟨RX12, "ahead", "(II)I"⟩
abbrev cX12_beginnings : ByteArray := prog_14_method_47_code
def yX12_beginnings : MethodName := ⟨RX12, "beginnings", "()I"⟩
abbrev cX12_pairs : ByteArray := prog_14_method_48_code
def yX12_pairs : MethodName := ⟨RX12, "pairs", "()I"⟩
abbrev cX12_count : ByteArray := prog_14_method_49_code
def yX12_count : MethodName := ⟨RX12, "count", "(I)I"⟩
abbrev cX12_apart : ByteArray := prog_14_method_50_code
def yX12_apart : MethodName := ⟨RX12, "apart", "(II)Z"⟩
abbrev cX12_four : ByteArray := prog_14_method_51_code
def yX12_four : MethodName := ⟨RX12, "four", "()I"⟩
abbrev cX12_series : ByteArray := prog_14_method_52_code
def yX12_series : MethodName := ⟨RX12, "series", "()I"⟩
abbrev cX12_shows : ByteArray := prog_14_method_53_code
def yX12_shows : MethodName := ⟨RX12, "shows", "(I)I"⟩
abbrev cX12_ran : ByteArray := prog_14_method_54_code
def yX12_ran : MethodName := ⟨RX12, "ran", "(I)V"⟩
abbrev cX12_jobLast : ByteArray := prog_14_method_55_code
def yX12_jobLast : MethodName := ⟨RX12, "jobLast", "(II)I"⟩
abbrev cX12_unitLast : ByteArray := prog_14_method_56_code
def yX12_unitLast : MethodName := ⟨RX12, "unitLast", "(II)I"⟩
abbrev cX12_jobFollow : ByteArray := prog_14_method_57_code
def yX12_jobFollow : MethodName := ⟨RX12, "jobFollow", "(II)I"⟩
abbrev cX12_last : ByteArray := prog_14_method_58_code
def yX12_last : MethodName := ⟨RX12, "last", "(III)I"⟩
abbrev cX12_weigh : ByteArray := prog_14_method_59_code
def yX12_weigh : MethodName := ⟨RX12, "weigh", "(III)I"⟩
abbrev cX12_follow : ByteArray := prog_14_method_60_code
def yX12_follow : MethodName := ⟨RX12, "follow", "(III)I"⟩
abbrev cX12_jobTell : ByteArray := prog_14_method_61_code
def yX12_jobTell : MethodName := ⟨RX12, "jobTell", "(III)I"⟩
abbrev cX12_tell : ByteArray := prog_14_method_62_code
def yX12_tell : MethodName := ⟨RX12, "tell", "(III)I"⟩
abbrev cX12_act : ByteArray := prog_14_method_63_code
def yX12_act : MethodName := ⟨RX12, "act", "(III)I"⟩
abbrev cX12_trace : ByteArray := prog_14_method_64_code
def yX12_trace : MethodName := ⟨RX12, "trace", "(I)I"⟩
abbrev cX12_sheet : ByteArray := prog_14_method_65_code
def yX12_sheet : MethodName := ⟨RX12, "sheet", "(III)I"⟩
abbrev cX12_cell : ByteArray := prog_14_method_66_code
def yX12_cell : MethodName := ⟨RX12, "cell", "(III)I"⟩
abbrev cX12_fromSheet : ByteArray := prog_14_method_67_code
def yX12_fromSheet : MethodName := ⟨RX12, "fromSheet", "(III)I"⟩
abbrev cX12_sum : ByteArray := prog_14_method_68_code
def yX12_sum : MethodName := ⟨RX12, "sum", "(II)I"⟩
abbrev cX12_unitTaken : ByteArray := prog_14_method_69_code
def yX12_unitTaken : MethodName := ⟨RX12, "unitTaken", "(I)I"⟩
abbrev cX12_forge : ByteArray := prog_14_method_70_code
def yX12_forge : MethodName := ⟨RX12, "forge", "(III)I"⟩
abbrev cX12_status : ByteArray := prog_14_method_71_code
def yX12_status : MethodName := ⟨RX12, "status", "()I"⟩
def RJ6 : String := "java/lang/Integer"
def TJ6 : u_T := fun k => match k with
  | _ => ("", "", "", false)
def tyJ6 : Nat → FieldType := fun k => match k with
  | _ => .int
abbrev wsJ60 : List Cond := u_ws RJ6 TJ6 0
theorem nmJ6 : ∀ a, a < 0 → ∀ b, b < 0 → a ≠ b → (TJ6 a).2.1 ≠ (TJ6 b).2.1 := by decide +kernel
theorem tyJ6_ok : ∀ k, k < 0 → parseFieldDescriptor (TJ6 k).2.2.1 = some (tyJ6 k) := by decide +kernel
abbrev cJ6_numberOfTrailingZeros_0f7a4 : ByteArray := prog_15_method_48_code
def yJ6_numberOfTrailingZeros_0f7a4 : MethodName := ⟨RJ6, "numberOfTrailingZeros", "(I)I"⟩
abbrev cJ6_bitCount_0f7a4 : ByteArray := prog_15_method_49_code
def yJ6_bitCount_0f7a4 : MethodName := ⟨RJ6, "bitCount", "(I)I"⟩
def RJ9 : String := "java/lang/Math"
def TJ9 : u_T := fun k => match k with
  | _ => ("", "", "", false)
def tyJ9 : Nat → FieldType := fun k => match k with
  | _ => .int
abbrev wsJ90 : List Cond := u_ws RJ9 TJ9 0
theorem nmJ9 : ∀ a, a < 0 → ∀ b, b < 0 → a ≠ b → (TJ9 a).2.1 ≠ (TJ9 b).2.1 := by decide +kernel
theorem tyJ9_ok : ∀ k, k < 0 → parseFieldDescriptor (TJ9 k).2.2.1 = some (tyJ9 k) := by decide +kernel
abbrev cJ9_floorMod_7cf53 : ByteArray := prog_16_method_50_code
def yJ9_floorMod_7cf53 : MethodName := ⟨RJ9, "floorMod", "(II)I"⟩
abbrev cJ9_max_7cf53 : ByteArray := prog_16_method_65_code
def yJ9_max_7cf53 : MethodName := ⟨RJ9, "max", "(II)I"⟩
abbrev cJ9_min_7cf53 : ByteArray := prog_16_method_69_code
def yJ9_min_7cf53 : MethodName := ⟨RJ9, "min", "(II)I"⟩
def RL : String := "FellersOrderLaw"
abbrev cL_law : ByteArray := code
def yL_law : MethodName := ⟨RL, "law", "([I)Z"⟩
def wsL_law_r1 : List Cond := [Cond.classLink RL 7 RX11, Cond.instantiable RX11 8, Cond.initialized RX11, Cond.classLink RL 10 RX12, Cond.instantiable RX12 27, Cond.initialized RX12, Cond.methodLink RL 9 yX11_init, Cond.instanceMethod yX11_init, Cond.code yX11_init cX11_init 2 none, Cond.methodLink RX11 1 objectInit, Cond.instanceMethod objectInit, Cond.code objectInit ⟨#[0xb1]⟩ 1 none, Cond.classLink RX11 7 RX10, Cond.instantiable RX10 10, Cond.initialized RX10, Cond.fieldLink RX11 10 "FellersOrder" "yard" "LFellersOrder$Yard;", Cond.classLink RX11 16 RX7, Cond.instantiable RX7 9, Cond.initialized RX7, Cond.fieldLink RX11 19 "FellersOrder" "plan" "LFellersOrder$Plan;", Cond.classLink RX11 23 RX6, Cond.instantiable RX6 2, Cond.initialized RX6, Cond.fieldLink RX11 26 "FellersOrder" "line" "LFellersOrder$Line;"]
def wsL_law_r2 : List Cond := [Cond.classLink RX11 30 RX2, Cond.instantiable RX2 6, Cond.initialized RX2, Cond.fieldLink RX11 33 "FellersOrder" "history" "LFellersOrder$History;", Cond.classLink RX11 37 RX0, Cond.instantiable RX0 6, Cond.initialized RX0, Cond.fieldLink RX11 40 "FellersOrder" "acting" "LFellersOrder$Acting;", Cond.classLink RX11 44 RX4, Cond.instantiable RX4 0, Cond.initialized RX4, Cond.classLink RX11 47 RX9, Cond.instantiable RX9 0, Cond.initialized RX9, Cond.classLink RX11 50 RX3, Cond.instantiable RX3 0, Cond.initialized RX3, Cond.classLink RX11 53 RX1, Cond.instantiable RX1 0, Cond.initialized RX1, Cond.classLink RX11 56 RX5, Cond.instantiable RX5 0, Cond.initialized RX5, Cond.fieldLink RX11 59 "FellersOrder" "kinds" "[LFellersOrder$JobKind;"]
def wsL_law_r3 : List Cond := [Cond.classLink RX11 63 RX8, Cond.fieldLink RX11 65 "FellersOrder" "sheets" "[LFellersOrder$Sheet;", Cond.instantiable RX8 3, Cond.initialized RX8, Cond.fieldLink RX11 70 "FellersOrder" "latest" "I", Cond.instanceMethod yX10_init, Cond.code yX10_init cX10_init 1 none, Cond.methodLink RX10 5 objectInit, Cond.classLink RX10 11 "[[I", Cond.arrayClass .int, Cond.fieldLink RX10 13 "FellersOrder$Yard" "measures" "[[I", Cond.fieldLink RX10 16 "FellersOrder$Yard" "laid" "[I", Cond.fieldLink RX10 20 "FellersOrder$Yard" "ahead" "[I", Cond.fieldLink RX10 23 "FellersOrder$Yard" "behind" "[I", Cond.fieldLink RX10 26 "FellersOrder$Yard" "lengths" "[I", Cond.fieldLink RX10 29 "FellersOrder$Yard" "weights" "[I", Cond.fieldLink RX10 32 "FellersOrder$Yard" "needs" "[I", Cond.instanceMethod yX7_init, Cond.code yX7_init cX7_init 1 none, Cond.methodLink RX7 3 objectInit, Cond.fieldLink RX7 9 "FellersOrder$Plan" "blockBits" "[I", Cond.fieldLink RX7 15 "FellersOrder$Plan" "blocksVersion" "I", Cond.fieldLink RX7 19 "FellersOrder$Plan" "costBehind" "[I", Cond.fieldLink RX7 22 "FellersOrder$Plan" "ordersBehind" "[I"]
def wsL_law_r4 : List Cond := [Cond.fieldLink RX7 25 "FellersOrder$Plan" "bestRow" "[I", Cond.fieldLink RX7 28 "FellersOrder$Plan" "ordersVersion" "I", Cond.fieldLink RX7 31 "FellersOrder$Plan" "sometimesBehind" "[I", Cond.fieldLink RX7 34 "FellersOrder$Plan" "standingVersion" "I", Cond.instanceMethod yX6_init, Cond.code yX6_init cX6_init 1 none, Cond.methodLink RX6 3 objectInit, Cond.fieldLink RX6 9 "FellersOrder$Line" "row" "[I", Cond.instanceMethod yX2_init, Cond.code yX2_init cX2_init 1 none, Cond.methodLink RX2 3 objectInit, Cond.fieldLink RX2 9 "FellersOrder$History" "change" "[I", Cond.fieldLink RX2 15 "FellersOrder$History" "first" "[I", Cond.fieldLink RX2 18 "FellersOrder$History" "second" "[I", Cond.fieldLink RX2 21 "FellersOrder$History" "former" "[I", Cond.instanceMethod yX0_init, Cond.code yX0_init cX0_init 1 none, Cond.methodLink RX0 3 objectInit, Cond.fieldLink RX0 9 "FellersOrder$Acting" "bodies" "[I", Cond.instanceMethod yX4_init, Cond.code yX4_init cX4_init 1 none, Cond.methodLink RX4 1 objectInit, Cond.instanceMethod yX9_init, Cond.code yX9_init cX9_init 1 none]
def wsL_law_r5 : List Cond := [Cond.instanceMethod yX3_init, Cond.code yX3_init cX3_init 1 none, Cond.instanceMethod yX1_init, Cond.code yX1_init cX1_init 1 none, Cond.instanceMethod yX5_init, Cond.code yX5_init cX5_init 1 none, Cond.instanceMethod yX8_init, Cond.code yX8_init cX8_init 1 none, Cond.methodLink RX8 3 objectInit, Cond.fieldLink RX8 9 "FellersOrder$Sheet" "numbers" "[I", Cond.fieldLink RX8 15 "FellersOrder$Sheet" "sort" "I", Cond.methodLink RL 12 yX12_init, Cond.instanceMethod yX12_init, Cond.code yX12_init cX12_init 2 none, Cond.methodLink RX12 1 objectInit, Cond.fieldLink RX12 7 "FellersOrderModel" "length" "[I", Cond.fieldLink RX12 13 "FellersOrderModel" "weight" "[I", Cond.fieldLink RX12 16 "FellersOrderModel" "moment" "[I", Cond.fieldLink RX12 19 "FellersOrderModel" "laid" "[I", Cond.fieldLink RX12 22 "FellersOrderModel" "must" "[I", Cond.fieldLink RX12 25 "FellersOrderModel" "order" "[I", Cond.fieldLink RX12 28 "FellersOrderModel" "wasJobs" "[I", Cond.fieldLink RX12 31 "FellersOrderModel" "was" "[I", Cond.fieldLink RX12 34 "FellersOrderModel" "sort" "[I"]
def wsL_law_r6 : List Cond := [Cond.fieldLink RX12 37 "FellersOrderModel" "size" "[I", Cond.arrayClass .long, Cond.fieldLink RX12 40 "FellersOrderModel" "cells" "[J", Cond.fieldLink RX12 44 "FellersOrderModel" "traced" "[I", Cond.fieldLink RX12 47 "FellersOrderModel" "setLength" "[I", Cond.fieldLink RX12 50 "FellersOrderModel" "forwards" "[I", Cond.fieldLink RX12 53 "FellersOrderModel" "ways" "[I", Cond.fieldLink RX12 56 "FellersOrderModel" "backwards" "[I", Cond.fieldLink RX12 59 "FellersOrderModel" "l" "[I", Cond.fieldLink RX12 62 "FellersOrderModel" "w" "[I", Cond.fieldLink RX12 65 "FellersOrderModel" "m" "[I", Cond.fieldLink RX12 68 "FellersOrderModel" "blockOf" "[I", Cond.methodLink RL 13 yX11_job, Cond.instanceMethod yX11_job, Cond.selects RX11 yX11_job yX11_job, Cond.code yX11_job cX11_job 3 (some .int), Cond.methodLink RX11 74 yX10_allows, Cond.static yX10_allows, Cond.code yX10_allows cX10_allows 2 (some .boolean), Cond.fieldLink RX10 35 "FellersOrder$Yard" "LOWEST" "[I", Cond.fieldLink RX10 38 "FellersOrder$Yard" "HIGHEST" "[I", Cond.methodLink RX11 78 yX11_refused, Cond.instanceMethod yX11_refused, Cond.selects RX11 yX11_refused yX11_refused]
def wsL_law_r7 : List Cond := [Cond.code yX11_refused cX11_refused 2 (some .int), Cond.methodLink RX11 82 yX10_isFull, Cond.instanceMethod yX10_isFull, Cond.selects RX10 yX10_isFull yX10_isFull, Cond.code yX10_isFull cX10_isFull 1 (some .boolean), Cond.fieldLink RX10 41 "FellersOrder$Yard" "jobs" "I", Cond.methodLink RX11 86 yX11_bringJob, Cond.instanceMethod yX11_bringJob, Cond.selects RX11 yX11_bringJob yX11_bringJob, Cond.code yX11_bringJob cX11_bringJob 4 (some .int), Cond.methodLink RX11 296 yX10_add, Cond.instanceMethod yX10_add, Cond.selects RX10 yX10_add yX10_add, Cond.code yX10_add cX10_add 4 (some .int), Cond.methodLink RX10 55 yX10_renew, Cond.instanceMethod yX10_renew, Cond.selects RX10 yX10_renew yX10_renew, Cond.code yX10_renew cX10_renew 1 none, Cond.fieldLink RX10 48 "FellersOrder$Yard" "version" "I", Cond.methodLink RX10 78 yX10_followLaid, Cond.instanceMethod yX10_followLaid, Cond.selects RX10 yX10_followLaid yX10_followLaid, Cond.code yX10_followLaid cX10_followLaid 3 none, Cond.static yX11_hasBit]
def wsL_law_r8 : List Cond := [Cond.code yX11_hasBit cX11_hasBit 2 (some .boolean), Cond.methodLink RX10 81 yX10_turnBehind, Cond.instanceMethod yX10_turnBehind, Cond.selects RX10 yX10_turnBehind yX10_turnBehind, Cond.code yX10_turnBehind cX10_turnBehind 4 none, Cond.methodLink RX10 84 yX10_sumHalf, Cond.instanceMethod yX10_sumHalf, Cond.selects RX10 yX10_sumHalf yX10_sumHalf, Cond.code yX10_sumHalf cX10_sumHalf 7 none, Cond.methodLink RX10 88 Lib.Math.max.name, Cond.static Lib.Math.max.name, Cond.initialized "java/lang/Math", Cond.code Lib.Math.max.name Lib.Math.max.code 2 (some .int), Cond.methodLink RX10 93 Lib.Math.min.name, Cond.static Lib.Math.min.name, Cond.code Lib.Math.min.name Lib.Math.min.code 2 (some .int), Cond.methodLink RX10 73 yJ6_numberOfTrailingZeros_0f7a4, Cond.static yJ6_numberOfTrailingZeros_0f7a4, Cond.initialized RJ6, Cond.code yJ6_numberOfTrailingZeros_0f7a4 cJ6_numberOfTrailingZeros_0f7a4 2 (some .int), Cond.constant RJ6 264 (65536), Cond.methodLink RX11 104 yX2_keep, Cond.instanceMethod yX2_keep, Cond.selects RX2 yX2_keep yX2_keep]
def wsL_law_r9 : List Cond := [Cond.code yX2_keep cX2_keep 5 none, Cond.fieldLink RX2 28 "FellersOrder$History" "next" "I", Cond.fieldLink RX2 24 "FellersOrder$History" "size" "I", Cond.methodLink RX2 31 Lib.Math.min.name, Cond.methodLink RX11 90 yX11_done, Cond.instanceMethod yX11_done, Cond.selects RX11 yX11_done yX11_done, Cond.code yX11_done cX11_done 2 (some .int), Cond.methodLink RL 17 yX12_job, Cond.instanceMethod yX12_job, Cond.selects RX12 yX12_job yX12_job, Cond.code yX12_job cX12_job 3 (some .int), Cond.fieldLink RX12 75 "FellersOrderModel" "jobs" "I", Cond.methodLink RX12 78 yX12_in, Cond.static yX12_in, Cond.code yX12_in cX12_in 3 (some .boolean), Cond.methodLink RX12 89 yX12_refused, Cond.instanceMethod yX12_refused, Cond.selects RX12 yX12_refused yX12_refused, Cond.code yX12_refused cX12_refused 2 (some .int), Cond.fieldLink RX12 71 "FellersOrderModel" "status" "I", Cond.methodLink RX12 102 yX12_made, Cond.instanceMethod yX12_made, Cond.selects RX12 yX12_made yX12_made]
def wsL_law_r10 : List Cond := [Cond.code yX12_made cX12_made 3 (some .int), Cond.methodLink RX12 99 yX12_keep, Cond.instanceMethod yX12_keep, Cond.selects RX12 yX12_keep yX12_keep, Cond.code yX12_keep cX12_keep 3 none, Cond.fieldLink RX12 86 "FellersOrderModel" "changes" "I", Cond.methodLink RX12 96 yX12_done, Cond.instanceMethod yX12_done, Cond.selects RX12 yX12_done yX12_done, Cond.code yX12_done cX12_done 2 (some .int), Cond.methodLink RL 18 yX11_set, Cond.instanceMethod yX11_set, Cond.selects RX11 yX11_set yX11_set, Cond.code yX11_set cX11_set 5 (some .int), Cond.methodLink RX11 93 yX10_has, Cond.instanceMethod yX10_has, Cond.selects RX10 yX10_has yX10_has, Cond.code yX10_has cX10_has 2 (some .boolean), Cond.methodLink RX11 97 yX10_measure, Cond.instanceMethod yX10_measure, Cond.selects RX10 yX10_measure yX10_measure, Cond.code yX10_measure cX10_measure 3 (some .int), Cond.methodLink RX11 100 yX10_measureAnew, Cond.instanceMethod yX10_measureAnew]
def wsL_law_r11 : List Cond := [Cond.selects RX10 yX10_measureAnew yX10_measureAnew, Cond.code yX10_measureAnew cX10_measureAnew 4 none, Cond.methodLink RL 22 yX12_set, Cond.instanceMethod yX12_set, Cond.selects RX12 yX12_set yX12_set, Cond.code yX12_set cX12_set 6 (some .int), Cond.methodLink RX12 106 yX12_isJob, Cond.instanceMethod yX12_isJob, Cond.selects RX12 yX12_isJob yX12_isJob, Cond.code yX12_isJob cX12_isJob 2 (some .boolean), Cond.methodLink RL 23 yX11_lay, Cond.instanceMethod yX11_lay, Cond.selects RX11 yX11_lay yX11_lay, Cond.code yX11_lay cX11_lay 3 (some .int), Cond.methodLink RX11 108 yX10_isLaid, Cond.instanceMethod yX10_isLaid, Cond.selects RX10 yX10_isLaid yX10_isLaid, Cond.code yX10_isLaid cX10_isLaid 3 (some .boolean), Cond.methodLink RX11 111 yX10_isAhead, Cond.instanceMethod yX10_isAhead, Cond.selects RX10 yX10_isAhead yX10_isAhead, Cond.code yX10_isAhead cX10_isAhead 3 (some .boolean), Cond.methodLink RX11 114 yX10_bind, Cond.instanceMethod yX10_bind]
def wsL_law_r12 : List Cond := [Cond.selects RX10 yX10_bind yX10_bind, Cond.code yX10_bind cX10_bind 3 none, Cond.fieldLink RX10 45 "FellersOrder$Yard" "laidPairs" "I", Cond.methodLink RL 26 yX12_lay, Cond.instanceMethod yX12_lay, Cond.selects RX12 yX12_lay yX12_lay, Cond.code yX12_lay cX12_lay 3 (some .int), Cond.methodLink RX12 110 yX12_close, Cond.instanceMethod yX12_close, Cond.selects RX12 yX12_close yX12_close, Cond.code yX12_close cX12_close 3 none, Cond.methodLink RX12 82 yX12_has, Cond.static yX12_has, Cond.code yX12_has cX12_has 2 (some .boolean), Cond.methodLink RL 27 yX11_free, Cond.instanceMethod yX11_free, Cond.selects RX11 yX11_free yX11_free, Cond.code yX11_free cX11_free 3 (some .int), Cond.methodLink RX11 118 yX10_unbind, Cond.instanceMethod yX10_unbind, Cond.selects RX10 yX10_unbind yX10_unbind, Cond.code yX10_unbind cX10_unbind 3 none, Cond.methodLink RL 30 yX12_free, Cond.instanceMethod yX12_free]
def wsL_law_r13 : List Cond := [Cond.selects RX12 yX12_free yX12_free, Cond.code yX12_free cX12_free 3 (some .int), Cond.methodLink RL 31 yX11_put, Cond.instanceMethod yX11_put, Cond.selects RX11 yX11_put yX11_put, Cond.code yX11_put cX11_put 2 (some .int), Cond.methodLink RX11 121 yX6_placeOf, Cond.instanceMethod yX6_placeOf, Cond.selects RX6 yX6_placeOf yX6_placeOf, Cond.code yX6_placeOf cX6_placeOf 3 (some .int), Cond.fieldLink RX6 15 "FellersOrder$Line" "size" "I", Cond.methodLink RX11 124 yX6_append, Cond.instanceMethod yX6_append, Cond.selects RX6 yX6_append yX6_append, Cond.code yX6_append cX6_append 2 none, Cond.methodLink RX11 128 yX6_size, Cond.instanceMethod yX6_size, Cond.selects RX6 yX6_size yX6_size, Cond.code yX6_size cX6_size 1 (some .int), Cond.methodLink RL 35 yX12_put, Cond.instanceMethod yX12_put, Cond.selects RX12 yX12_put yX12_put, Cond.code yX12_put cX12_put 2 (some .int), Cond.fieldLink RX12 93 "FellersOrderModel" "ordered" "I"]
def wsL_law_r14 : List Cond := [Cond.methodLink RX12 113 yX12_placeOf, Cond.instanceMethod yX12_placeOf, Cond.selects RX12 yX12_placeOf yX12_placeOf, Cond.code yX12_placeOf cX12_placeOf 3 (some .int), Cond.methodLink RL 36 yX11_clear, Cond.instanceMethod yX11_clear, Cond.selects RX11 yX11_clear yX11_clear, Cond.code yX11_clear cX11_clear 2 (some .int), Cond.methodLink RX11 132 yX6_empty, Cond.instanceMethod yX6_empty, Cond.selects RX6 yX6_empty yX6_empty, Cond.code yX6_empty cX6_empty 1 none, Cond.methodLink RL 40 yX12_clear, Cond.instanceMethod yX12_clear, Cond.selects RX12 yX12_clear yX12_clear, Cond.code yX12_clear cX12_clear 2 (some .int), Cond.methodLink RL 41 yX11_told, Cond.instanceMethod yX11_told, Cond.selects RX11 yX11_told yX11_told, Cond.code yX11_told cX11_told 3 (some .int), Cond.methodLink RX11 135 yX10_kindOf, Cond.instanceMethod yX10_kindOf, Cond.selects RX10 yX10_kindOf yX10_kindOf, Cond.code yX10_kindOf cX10_kindOf 2 (some .int)]
def wsL_law_r15 : List Cond := [Cond.methodLink RX11 138 yX10_aheadOf, Cond.instanceMethod yX10_aheadOf, Cond.selects RX10 yX10_aheadOf yX10_aheadOf, Cond.code yX10_aheadOf cX10_aheadOf 2 (some .int), Cond.methodLink RX11 141 yJ6_bitCount_0f7a4, Cond.static yJ6_bitCount_0f7a4, Cond.code yJ6_bitCount_0f7a4 cJ6_bitCount_0f7a4 1 (some .int), Cond.constant RJ6 265 (1431655765), Cond.constant RJ6 266 (858993459), Cond.constant RJ6 267 (252645135), Cond.methodLink RX11 146 yX10_behind, Cond.instanceMethod yX10_behind, Cond.selects RX10 yX10_behind yX10_behind, Cond.code yX10_behind cX10_behind 2 (some .int), Cond.methodLink RX11 149 yX7_blockOf, Cond.instanceMethod yX7_blockOf, Cond.selects RX7 yX7_blockOf yX7_blockOf, Cond.code yX7_blockOf cX7_blockOf 5 (some .int), Cond.methodLink RX7 50 yX7_blocks, Cond.instanceMethod yX7_blocks, Cond.selects RX7 yX7_blocks yX7_blocks, Cond.code yX7_blocks cX7_blocks 2 (some .int), Cond.fieldLink RX7 47 "FellersOrder$Plan" "blocks" "I", Cond.methodLink RX7 37 yX10_version]
def wsL_law_r16 : List Cond := [Cond.instanceMethod yX10_version, Cond.selects RX10 yX10_version yX10_version, Cond.code yX10_version cX10_version 1 (some .int), Cond.methodLink RX7 43 yX7_findBlocks, Cond.instanceMethod yX7_findBlocks, Cond.selects RX7 yX7_findBlocks yX7_findBlocks, Cond.code yX7_findBlocks cX7_findBlocks 4 none, Cond.methodLink RX7 63 yX10_everyJob, Cond.instanceMethod yX10_everyJob, Cond.selects RX10 yX10_everyJob yX10_everyJob, Cond.code yX10_everyJob cX10_everyJob 1 (some .int), Cond.methodLink RX7 66 yX7_findBlock, Cond.static yX7_findBlock, Cond.code yX7_findBlock cX7_findBlock 10 (some .int), Cond.methodLink RX7 70 yX10_lengthOf, Cond.instanceMethod yX10_lengthOf, Cond.selects RX10 yX10_lengthOf yX10_lengthOf, Cond.code yX10_lengthOf cX10_lengthOf 2 (some .int), Cond.methodLink RX7 74 yX10_weightOf, Cond.instanceMethod yX10_weightOf, Cond.selects RX10 yX10_weightOf yX10_weightOf, Cond.code yX10_weightOf cX10_weightOf 2 (some .int), Cond.methodLink RX7 77 yX10_isBeginning, Cond.instanceMethod yX10_isBeginning]
def wsL_law_r17 : List Cond := [Cond.selects RX10 yX10_isBeginning yX10_isBeginning, Cond.code yX10_isBeginning cX10_isBeginning 4 (some .boolean), Cond.methodLink RL 44 yX12_told, Cond.instanceMethod yX12_told, Cond.selects RX12 yX12_told yX12_told, Cond.code yX12_told cX12_told 3 (some .int), Cond.methodLink RX12 170 yX12_kindOf, Cond.instanceMethod yX12_kindOf, Cond.selects RX12 yX12_kindOf yX12_kindOf, Cond.code yX12_kindOf cX12_kindOf 2 (some .int), Cond.methodLink RX12 173 yX12_bits, Cond.static yX12_bits, Cond.code yX12_bits cX12_bits 3 (some .int), Cond.methodLink RX12 176 yX12_behindOf, Cond.instanceMethod yX12_behindOf, Cond.selects RX12 yX12_behindOf yX12_behindOf, Cond.code yX12_behindOf cX12_behindOf 4 (some .int), Cond.methodLink RX12 179 yX12_blockWith, Cond.instanceMethod yX12_blockWith, Cond.selects RX12 yX12_blockWith yX12_blockWith, Cond.code yX12_blockWith cX12_blockWith 3 (some .int), Cond.methodLink RX12 167 yX12_findBlocks, Cond.instanceMethod yX12_findBlocks, Cond.selects RX12 yX12_findBlocks yX12_findBlocks]
def wsL_law_r18 : List Cond := [Cond.code yX12_findBlocks cX12_findBlocks 2 none, Cond.fieldLink RX12 161 "FellersOrderModel" "blocks" "I", Cond.methodLink RX12 134 yX12_all, Cond.instanceMethod yX12_all, Cond.selects RX12 yX12_all yX12_all, Cond.code yX12_all cX12_all 1 (some .int), Cond.methodLink RX12 164 yX12_blockBehind, Cond.instanceMethod yX12_blockBehind, Cond.selects RX12 yX12_blockBehind yX12_blockBehind, Cond.code yX12_blockBehind cX12_blockBehind 5 (some .int), Cond.methodLink RX12 152 yX12_isBeginning, Cond.instanceMethod yX12_isBeginning, Cond.selects RX12 yX12_isBeginning yX12_isBeginning, Cond.code yX12_isBeginning cX12_isBeginning 5 (some .boolean), Cond.methodLink RX12 155 yX12_weightOf, Cond.instanceMethod yX12_weightOf, Cond.selects RX12 yX12_weightOf yX12_weightOf, Cond.code yX12_weightOf cX12_weightOf 4 (some .int), Cond.methodLink RX12 158 yX12_lengthOf, Cond.instanceMethod yX12_lengthOf, Cond.selects RX12 yX12_lengthOf yX12_lengthOf, Cond.code yX12_lengthOf cX12_lengthOf 4 (some .int), Cond.methodLink RL 45 yX11_ahead, Cond.instanceMethod yX11_ahead]
def wsL_law_r19 : List Cond := [Cond.selects RX11 yX11_ahead yX11_ahead, Cond.code yX11_ahead cX11_ahead 3 (some .int), Cond.methodLink RX11 153 yX11_asNumber, Cond.static yX11_asNumber, Cond.code yX11_asNumber cX11_asNumber 1 (some .int), Cond.methodLink RL 48 yX12_ahead, Cond.instanceMethod yX12_ahead, Cond.selects RX12 yX12_ahead yX12_ahead, Cond.code yX12_ahead cX12_ahead 3 (some .int), Cond.methodLink RL 49 yX11_count, Cond.instanceMethod yX11_count, Cond.selects RX11 yX11_count yX11_count, Cond.code yX11_count cX11_count 2 (some .int), Cond.methodLink RX11 157 yX10_jobs, Cond.instanceMethod yX10_jobs, Cond.selects RX10 yX10_jobs yX10_jobs, Cond.code yX10_jobs cX10_jobs 1 (some .int), Cond.methodLink RX11 160 yX10_laidPairs, Cond.instanceMethod yX10_laidPairs, Cond.selects RX10 yX10_laidPairs yX10_laidPairs, Cond.code yX10_laidPairs cX10_laidPairs 1 (some .int), Cond.methodLink RX11 163 yX7_blocks, Cond.methodLink RX11 167 yX10_beginnings, Cond.instanceMethod yX10_beginnings]
def wsL_law_r20 : List Cond := [Cond.selects RX10 yX10_beginnings yX10_beginnings, Cond.code yX10_beginnings cX10_beginnings 4 (some .int), Cond.methodLink RX10 58 yX10_everyJob, Cond.methodLink RX10 62 yX10_isBeginning, Cond.methodLink RX11 170 yX0_begun, Cond.instanceMethod yX0_begun, Cond.selects RX0 yX0_begun yX0_begun, Cond.code yX0_begun cX0_begun 1 (some .int), Cond.fieldLink RX0 15 "FellersOrder$Acting" "begun" "I", Cond.methodLink RX11 173 yX2_size, Cond.instanceMethod yX2_size, Cond.selects RX2 yX2_size yX2_size, Cond.code yX2_size cX2_size 1 (some .int), Cond.methodLink RL 52 yX12_count, Cond.instanceMethod yX12_count, Cond.selects RX12 yX12_count yX12_count, Cond.code yX12_count cX12_count 2 (some .int), Cond.fieldLink RX12 188 "FellersOrderModel" "traces" "I", Cond.methodLink RX12 182 yX12_pairs, Cond.instanceMethod yX12_pairs, Cond.selects RX12 yX12_pairs yX12_pairs, Cond.code yX12_pairs cX12_pairs 3 (some .int), Cond.methodLink RX12 185 yX12_beginnings, Cond.instanceMethod yX12_beginnings]
def wsL_law_r21 : List Cond := [Cond.selects RX12 yX12_beginnings yX12_beginnings, Cond.code yX12_beginnings cX12_beginnings 3 (some .int), Cond.methodLink RL 53 yX11_keeps, Cond.instanceMethod yX11_keeps, Cond.selects RX11 yX11_keeps yX11_keeps, Cond.code yX11_keeps cX11_keeps 1 (some .int), Cond.methodLink RX11 174 yX6_isKept, Cond.instanceMethod yX6_isKept, Cond.selects RX6 yX6_isKept yX6_isKept, Cond.code yX6_isKept cX6_isKept 2 (some .boolean), Cond.methodLink RX6 32 yX10_jobs, Cond.methodLink RX6 36 yX6_firstLacking, Cond.instanceMethod yX6_firstLacking, Cond.selects RX6 yX6_firstLacking yX6_firstLacking, Cond.code yX6_firstLacking cX6_firstLacking 3 (some .int), Cond.methodLink RX6 28 yX6_lackingAt, Cond.instanceMethod yX6_lackingAt, Cond.selects RX6 yX6_lackingAt yX6_lackingAt, Cond.code yX6_lackingAt cX6_lackingAt 3 (some .int), Cond.methodLink RX6 19 yX10_aheadOf, Cond.methodLink RX6 25 yX6_bitsBefore, Cond.instanceMethod yX6_bitsBefore, Cond.selects RX6 yX6_bitsBefore yX6_bitsBefore, Cond.code yX6_bitsBefore cX6_bitsBefore 4 (some .int)]
def wsL_law_r22 : List Cond := [Cond.methodLink RL 56 yX12_keeps, Cond.instanceMethod yX12_keeps, Cond.selects RX12 yX12_keeps yX12_keeps, Cond.code yX12_keeps cX12_keeps 1 (some .int), Cond.fieldLink RX12 116 "FellersOrderModel" "lacks" "I", Cond.methodLink RX12 119 yX12_lacking, Cond.instanceMethod yX12_lacking, Cond.selects RX12 yX12_lacking yX12_lacking, Cond.code yX12_lacking cX12_lacking 4 (some .int), Cond.methodLink RL 57 yX11_why, Cond.instanceMethod yX11_why, Cond.selects RX11 yX11_why yX11_why, Cond.code yX11_why cX11_why 4 (some .int), Cond.methodLink RX11 178 yX6_firstLacking, Cond.methodLink RX11 181 yX6_jobAt, Cond.instanceMethod yX6_jobAt, Cond.selects RX6 yX6_jobAt yX6_jobAt, Cond.code yX6_jobAt cX6_jobAt 2 (some .int), Cond.methodLink RX11 184 yX10_everyJob, Cond.methodLink RX11 187 yX6_bitsBefore, Cond.methodLink RX11 190 yX6_lackingAt, Cond.methodLink RX11 193 yJ6_numberOfTrailingZeros_0f7a4, Cond.methodLink RL 60 yX12_why, Cond.instanceMethod yX12_why]
def wsL_law_r23 : List Cond := [Cond.selects RX12 yX12_why yX12_why, Cond.code yX12_why cX12_why 3 (some .int), Cond.methodLink RX12 123 yX12_lowest, Cond.static yX12_lowest, Cond.code yX12_lowest cX12_lowest 2 (some .int), Cond.methodLink RL 61 yX11_cost, Cond.instanceMethod yX11_cost, Cond.selects RX11 yX11_cost yX11_cost, Cond.code yX11_cost cX11_cost 1 (some .int), Cond.methodLink RX11 196 yX6_weightedWaiting, Cond.instanceMethod yX6_weightedWaiting, Cond.selects RX6 yX6_weightedWaiting yX6_weightedWaiting, Cond.code yX6_weightedWaiting cX6_weightedWaiting 6 (some .int), Cond.methodLink RX6 44 Lib.Math.max.name, Cond.methodLink RX6 40 yX10_measure, Cond.methodLink RL 64 yX12_cost, Cond.instanceMethod yX12_cost, Cond.selects RX12 yX12_cost yX12_cost, Cond.code yX12_cost cX12_cost 5 (some .int), Cond.methodLink RL 65 yX11_swap, Cond.instanceMethod yX11_swap, Cond.selects RX11 yX11_swap yX11_swap, Cond.code yX11_swap cX11_swap 4 (some .int), Cond.constant RX11 199 (-1000000000)]
def wsL_law_r24 : List Cond := [Cond.methodLink RX11 200 yX6_exchange, Cond.instanceMethod yX6_exchange, Cond.selects RX6 yX6_exchange yX6_exchange, Cond.code yX6_exchange cX6_exchange 3 none, Cond.methodLink RL 68 yX12_swap, Cond.instanceMethod yX12_swap, Cond.selects RX12 yX12_swap yX12_swap, Cond.code yX12_swap cX12_swap 4 (some .int), Cond.constant RX12 126 (-1000000000), Cond.methodLink RX12 127 yX12_cost, Cond.methodLink RX12 130 yX12_change, Cond.instanceMethod yX12_change, Cond.selects RX12 yX12_change yX12_change, Cond.code yX12_change cX12_change 3 none, Cond.methodLink RL 69 yX11_block, Cond.instanceMethod yX11_block, Cond.selects RX11 yX11_block yX11_block, Cond.code yX11_block cX11_block 4 (some .int), Cond.methodLink RX11 203 yX7_blockBits, Cond.instanceMethod yX7_blockBits, Cond.selects RX7 yX7_blockBits yX7_blockBits, Cond.code yX7_blockBits cX7_blockBits 2 (some .int), Cond.methodLink RX11 206 yX10_weightOf, Cond.methodLink RX11 209 yX10_lengthOf]
def wsL_law_r25 : List Cond := [Cond.methodLink RL 72 yX12_block, Cond.instanceMethod yX12_block, Cond.selects RX12 yX12_block yX12_block, Cond.code yX12_block cX12_block 3 (some .int), Cond.methodLink RL 73 yX11_least, Cond.instanceMethod yX11_least, Cond.selects RX11 yX11_least yX11_least, Cond.code yX11_least cX11_least 1 (some .int), Cond.methodLink RX11 212 yX7_leastCost, Cond.instanceMethod yX7_leastCost, Cond.selects RX7 yX7_leastCost yX7_leastCost, Cond.code yX7_leastCost cX7_leastCost 2 (some .int), Cond.methodLink RX7 57 yX7_findOrders, Cond.instanceMethod yX7_findOrders, Cond.selects RX7 yX7_findOrders yX7_findOrders, Cond.code yX7_findOrders cX7_findOrders 4 none, Cond.constant RX7 84 (1000000000), Cond.methodLink RX7 80 yX7_goOnFrom, Cond.instanceMethod yX7_goOnFrom, Cond.selects RX7 yX7_goOnFrom yX7_goOnFrom, Cond.code yX7_goOnFrom cX7_goOnFrom 10 none, Cond.methodLink RX7 88 yX10_jobs, Cond.methodLink RX7 91 yX10_mayComeNext, Cond.instanceMethod yX10_mayComeNext]
def wsL_law_r26 : List Cond := [Cond.selects RX10 yX10_mayComeNext yX10_mayComeNext, Cond.code yX10_mayComeNext cX10_mayComeNext 3 (some .boolean), Cond.methodLink RX7 94 yX10_costNext, Cond.instanceMethod yX10_costNext, Cond.selects RX10 yX10_costNext yX10_costNext, Cond.code yX10_costNext cX10_costNext 3 (some .int), Cond.methodLink RX7 85 yX7_readBestRow, Cond.instanceMethod yX7_readBestRow, Cond.selects RX7 yX7_readBestRow yX7_readBestRow, Cond.code yX7_readBestRow cX7_readBestRow 5 none, Cond.methodLink RX7 98 yX7_leastBestNext, Cond.instanceMethod yX7_leastBestNext, Cond.selects RX7 yX7_leastBestNext yX7_leastBestNext, Cond.code yX7_leastBestNext cX7_leastBestNext 4 (some .int), Cond.methodLink RX7 101 yX7_isBestNext, Cond.instanceMethod yX7_isBestNext, Cond.selects RX7 yX7_isBestNext yX7_isBestNext, Cond.code yX7_isBestNext cX7_isBestNext 4 (some .boolean), Cond.methodLink RL 76 yX12_least, Cond.instanceMethod yX12_least, Cond.selects RX12 yX12_least yX12_least, Cond.code yX12_least cX12_least 1 (some .int), Cond.methodLink RX12 149 yX12_look, Cond.instanceMethod yX12_look]
def wsL_law_r27 : List Cond := [Cond.selects RX12 yX12_look yX12_look, Cond.code yX12_look cX12_look 1 none, Cond.methodLink RX12 142 yX12_yard, Cond.instanceMethod yX12_yard, Cond.selects RX12 yX12_yard yX12_yard, Cond.code yX12_yard cX12_yard 4 none, Cond.methodLink RX12 146 yX12_layAll, Cond.instanceMethod yX12_layAll, Cond.selects RX12 yX12_layAll yX12_layAll, Cond.code yX12_layAll cX12_layAll 5 none, Cond.constant RX12 137 (2000000000), Cond.methodLink RX12 138 yX12_goes, Cond.instanceMethod yX12_goes, Cond.selects RX12 yX12_goes yX12_goes, Cond.code yX12_goes cX12_goes 4 none, Cond.methodLink RL 77 yX11_best, Cond.instanceMethod yX11_best, Cond.selects RX11 yX11_best yX11_best, Cond.code yX11_best cX11_best 2 (some .int), Cond.methodLink RX11 215 yX7_bestAt, Cond.instanceMethod yX7_bestAt, Cond.selects RX7 yX7_bestAt yX7_bestAt, Cond.code yX7_bestAt cX7_bestAt 3 (some .int), Cond.methodLink RL 80 yX12_best]
def wsL_law_r28 : List Cond := [Cond.instanceMethod yX12_best, Cond.selects RX12 yX12_best yX12_best, Cond.code yX12_best cX12_best 8 (some .int), Cond.methodLink RL 81 yX11_many, Cond.instanceMethod yX11_many, Cond.selects RX11 yX11_many yX11_many, Cond.code yX11_many cX11_many 1 (some .int), Cond.methodLink RX11 218 yX7_bestOrders, Cond.instanceMethod yX7_bestOrders, Cond.selects RX7 yX7_bestOrders yX7_bestOrders, Cond.code yX7_bestOrders cX7_bestOrders 2 (some .int), Cond.methodLink RL 84 yX12_many, Cond.instanceMethod yX12_many, Cond.selects RX12 yX12_many yX12_many, Cond.code yX12_many cX12_many 1 (some .int), Cond.methodLink RL 85 yX11_fixed, Cond.instanceMethod yX11_fixed, Cond.selects RX11 yX11_fixed yX11_fixed, Cond.code yX11_fixed cX11_fixed 3 (some .int), Cond.methodLink RX11 221 yX7_mayStandAhead, Cond.instanceMethod yX7_mayStandAhead, Cond.selects RX7 yX7_mayStandAhead yX7_mayStandAhead, Cond.code yX7_mayStandAhead cX7_mayStandAhead 4 (some .boolean), Cond.methodLink RX7 60 yX7_findStanding]
def wsL_law_r29 : List Cond := [Cond.instanceMethod yX7_findStanding, Cond.selects RX7 yX7_findStanding yX7_findStanding, Cond.code yX7_findStanding cX7_findStanding 4 none, Cond.methodLink RX7 105 yX7_beginsBestOrder, Cond.instanceMethod yX7_beginsBestOrder, Cond.selects RX7 yX7_beginsBestOrder yX7_beginsBestOrder, Cond.code yX7_beginsBestOrder cX7_beginsBestOrder 5 (some .boolean), Cond.methodLink RX7 109 yX7_noteStanding, Cond.instanceMethod yX7_noteStanding, Cond.selects RX7 yX7_noteStanding yX7_noteStanding, Cond.code yX7_noteStanding cX7_noteStanding 6 none, Cond.methodLink RL 88 yX12_fixed, Cond.instanceMethod yX12_fixed, Cond.selects RX12 yX12_fixed yX12_fixed, Cond.code yX12_fixed cX12_fixed 6 (some .int), Cond.methodLink RL 89 yX11_series, Cond.instanceMethod yX11_series, Cond.selects RX11 yX11_series yX11_series, Cond.code yX11_series cX11_series 1 (some .int), Cond.methodLink RX11 225 yX10_findCrossing, Cond.instanceMethod yX10_findCrossing, Cond.selects RX10 yX10_findCrossing yX10_findCrossing, Cond.code yX10_findCrossing cX10_findCrossing 4 (some .int), Cond.methodLink RX10 65 yX10_unbound]
def wsL_law_r30 : List Cond := [Cond.instanceMethod yX10_unbound, Cond.selects RX10 yX10_unbound yX10_unbound, Cond.code yX10_unbound cX10_unbound 2 (some .int), Cond.methodLink RX10 69 yX10_findEnds, Cond.instanceMethod yX10_findEnds, Cond.selects RX10 yX10_findEnds yX10_findEnds, Cond.code yX10_findEnds cX10_findEnds 5 (some .int), Cond.methodLink RL 92 yX12_series, Cond.instanceMethod yX12_series, Cond.selects RX12 yX12_series yX12_series, Cond.code yX12_series cX12_series 1 (some .int), Cond.methodLink RX12 194 yX12_four, Cond.instanceMethod yX12_four, Cond.selects RX12 yX12_four yX12_four, Cond.code yX12_four cX12_four 6 (some .int), Cond.methodLink RX12 191 yX12_apart, Cond.instanceMethod yX12_apart, Cond.selects RX12 yX12_apart yX12_apart, Cond.code yX12_apart cX12_apart 3 (some .boolean), Cond.methodLink RL 93 yX11_shows, Cond.instanceMethod yX11_shows, Cond.selects RX11 yX11_shows yX11_shows, Cond.code yX11_shows cX11_shows 3 (some .int), Cond.methodLink RX11 228 yX10_jobOfCrossing]
def wsL_law_r31 : List Cond := [Cond.static yX10_jobOfCrossing, Cond.code yX10_jobOfCrossing cX10_jobOfCrossing 2 (some .int), Cond.methodLink RL 96 yX12_shows, Cond.instanceMethod yX12_shows, Cond.selects RX12 yX12_shows yX12_shows, Cond.code yX12_shows cX12_shows 3 (some .int), Cond.methodLink RL 97 yX11_turned, Cond.instanceMethod yX11_turned, Cond.selects RX11 yX11_turned yX11_turned, Cond.code yX11_turned cX11_turned 2 (some .int), Cond.methodLink RL 100 yX12_turned, Cond.instanceMethod yX12_turned, Cond.selects RX12 yX12_turned yX12_turned, Cond.code yX12_turned cX12_turned 2 (some .int), Cond.methodLink RL 101 yX11_act, Cond.instanceMethod yX11_act, Cond.selects RX11 yX11_act yX11_act, Cond.code yX11_act cX11_act 5 (some .int), Cond.methodLink RX11 231 yX0_take, Cond.instanceMethod yX0_take, Cond.selects RX0 yX0_take yX0_take, Cond.code yX0_take cX0_take 3 none, Cond.fieldLink RX0 25 "FellersOrder$Acting" "length" "I", Cond.fieldLink RX0 28 "FellersOrder$Acting" "weight" "I"]
def wsL_law_r32 : List Cond := [Cond.fieldLink RX0 31 "FellersOrder$Acting" "moment" "I", Cond.fieldLink RX0 43 "FellersOrder$Acting" "ahead" "I", Cond.methodLink RX0 19 yX10_measure, Cond.methodLink RX0 34 yX10_aheadOf, Cond.methodLink RX0 38 yJ6_bitCount_0f7a4, Cond.methodLink RX11 235 ⟨"FellersOrder$JobKind", "last", "(LFellersOrder$Acting;I)I"⟩, Cond.sameMethod "FellersOrder$JobKind" "FellersOrder$JobKind" "last" "(LFellersOrder$Acting;I)I", Cond.instanceMethod ⟨"FellersOrder$JobKind", "last", "(LFellersOrder$Acting;I)I"⟩, Cond.selects RX1 ⟨"FellersOrder$JobKind", "last", "(LFellersOrder$Acting;I)I"⟩ yX1_last, Cond.instanceMethod yX1_last, Cond.code yX1_last cX1_last 3 (some .int), Cond.methodLink RX1 7 yX0_begin, Cond.instanceMethod yX0_begin, Cond.selects RX0 yX0_begin yX0_begin, Cond.code yX0_begin cX0_begin 2 none, Cond.methodLink RX1 17 yX9_last, Cond.sameMethod "FellersOrder$UnitKind" "FellersOrder$UnitKind" "last" "(LFellersOrder$Acting;I)I", Cond.superclass RX1 RX9, Cond.instanceMethod yX9_last, Cond.code yX9_last cX9_last 3 (some .int), Cond.methodLink RX9 7 yX0_begin, Cond.methodLink RX9 13 yX4_last, Cond.superclass RX9 RX4, Cond.instanceMethod yX4_last]
def wsL_law_r33 : List Cond := [Cond.code yX4_last cX4_last 3 (some .int), Cond.methodLink RX4 7 yX0_begin, Cond.selects RX3 ⟨"FellersOrder$JobKind", "last", "(LFellersOrder$Acting;I)I"⟩ yX4_last, Cond.methodLink RX11 235 yX4_last, Cond.selects RX4 yX4_last yX4_last, Cond.selects RX5 ⟨"FellersOrder$JobKind", "last", "(LFellersOrder$Acting;I)I"⟩ yX5_last, Cond.instanceMethod yX5_last, Cond.code yX5_last cX5_last 3 (some .int), Cond.methodLink RX5 7 yX0_begin, Cond.methodLink RX5 17 yX4_last, Cond.superclass RX5 RX4, Cond.selects RX9 ⟨"FellersOrder$JobKind", "last", "(LFellersOrder$Acting;I)I"⟩ yX9_last, Cond.methodLink RX11 239 ⟨"FellersOrder$JobKind", "weigh", "(LFellersOrder$Acting;I)I"⟩, Cond.sameMethod "FellersOrder$JobKind" "FellersOrder$JobKind" "weigh" "(LFellersOrder$Acting;I)I", Cond.selects RX1 ⟨"FellersOrder$JobKind", "weigh", "(LFellersOrder$Acting;I)I"⟩ yX4_weigh, Cond.instanceMethod yX4_weigh, Cond.code yX4_weigh cX4_weigh 3 (some .int), Cond.methodLink RX4 17 ⟨"FellersOrder$JobKind", "last", "(LFellersOrder$Acting;I)I"⟩, Cond.methodLink RX4 17 yX4_last, Cond.instanceMethod ⟨"FellersOrder$JobKind", "weigh", "(LFellersOrder$Acting;I)I"⟩, Cond.selects RX3 ⟨"FellersOrder$JobKind", "weigh", "(LFellersOrder$Acting;I)I"⟩ yX3_weigh, Cond.instanceMethod yX3_weigh, Cond.code yX3_weigh cX3_weigh 3 (some .int), Cond.methodLink RX3 7 yX0_begin]
def wsL_law_r34 : List Cond := [Cond.methodLink RX3 13 yX4_weigh, Cond.superclass RX3 RX4, Cond.methodLink RX11 239 yX4_weigh, Cond.selects RX4 yX4_weigh yX4_weigh, Cond.selects RX5 ⟨"FellersOrder$JobKind", "weigh", "(LFellersOrder$Acting;I)I"⟩ yX4_weigh, Cond.selects RX9 ⟨"FellersOrder$JobKind", "weigh", "(LFellersOrder$Acting;I)I"⟩ yX4_weigh, Cond.methodLink RX11 242 ⟨"FellersOrder$JobKind", "follow", "(LFellersOrder$Acting;I)I"⟩, Cond.sameMethod "FellersOrder$JobKind" "FellersOrder$JobKind" "follow" "(LFellersOrder$Acting;I)I", Cond.instanceMethod ⟨"FellersOrder$JobKind", "follow", "(LFellersOrder$Acting;I)I"⟩, Cond.selects RX1 ⟨"FellersOrder$JobKind", "follow", "(LFellersOrder$Acting;I)I"⟩ yX1_follow, Cond.instanceMethod yX1_follow, Cond.code yX1_follow cX1_follow 3 (some .int), Cond.code yX4_follow cX4_follow 3 (some .int), Cond.selects RX3 ⟨"FellersOrder$JobKind", "follow", "(LFellersOrder$Acting;I)I"⟩ yX4_follow, Cond.instanceMethod yX4_follow, Cond.methodLink RX11 242 yX4_follow, Cond.selects RX4 yX4_follow yX4_follow, Cond.selects RX5 ⟨"FellersOrder$JobKind", "follow", "(LFellersOrder$Acting;I)I"⟩ yX4_follow, Cond.selects RX9 ⟨"FellersOrder$JobKind", "follow", "(LFellersOrder$Acting;I)I"⟩ yX4_follow, Cond.methodLink RX11 245 ⟨"FellersOrder$JobKind", "tell", "(LFellersOrder$Acting;I)I"⟩, Cond.sameMethod "FellersOrder$JobKind" "FellersOrder$JobKind" "tell" "(LFellersOrder$Acting;I)I", Cond.instanceMethod ⟨"FellersOrder$JobKind", "tell", "(LFellersOrder$Acting;I)I"⟩, Cond.selects RX1 ⟨"FellersOrder$JobKind", "tell", "(LFellersOrder$Acting;I)I"⟩ yX9_tell, Cond.instanceMethod yX9_tell]
def wsL_law_r35 : List Cond := [Cond.code yX9_tell cX9_tell 3 (some .int), Cond.methodLink RX9 17 yX4_tell, Cond.instanceMethod yX4_tell, Cond.code yX4_tell cX4_tell 3 (some .int), Cond.methodLink RX4 29 ⟨"FellersOrder$JobKind", "weigh", "(LFellersOrder$Acting;I)I"⟩, Cond.methodLink RX4 29 yX4_weigh, Cond.methodLink RX4 32 ⟨"FellersOrder$JobKind", "follow", "(LFellersOrder$Acting;I)I"⟩, Cond.methodLink RX4 32 yX4_follow, Cond.selects RX3 ⟨"FellersOrder$JobKind", "tell", "(LFellersOrder$Acting;I)I"⟩ yX4_tell, Cond.methodLink RX11 245 yX4_tell, Cond.selects RX4 yX4_tell yX4_tell, Cond.selects RX5 ⟨"FellersOrder$JobKind", "tell", "(LFellersOrder$Acting;I)I"⟩ yX5_tell, Cond.instanceMethod yX5_tell, Cond.code yX5_tell cX5_tell 3 (some .int), Cond.methodLink RX5 21 ⟨"FellersOrder$LateKind", "follow", "(LFellersOrder$Acting;I)I"⟩, Cond.sameMethod "FellersOrder$LateKind" "FellersOrder$JobKind" "follow" "(LFellersOrder$Acting;I)I", Cond.selects RX5 ⟨"FellersOrder$LateKind", "follow", "(LFellersOrder$Acting;I)I"⟩ yX4_follow, Cond.methodLink RX5 26 yX4_tell, Cond.selects RX9 ⟨"FellersOrder$JobKind", "tell", "(LFellersOrder$Acting;I)I"⟩ yX9_tell, Cond.methodLink RL 104 yX12_act, Cond.instanceMethod yX12_act, Cond.selects RX12 yX12_act yX12_act, Cond.code yX12_act cX12_act 5 (some .int), Cond.methodLink RX12 209 yX12_last]
def wsL_law_r36 : List Cond := [Cond.instanceMethod yX12_last, Cond.selects RX12 yX12_last yX12_last, Cond.code yX12_last cX12_last 5 (some .int), Cond.methodLink RX12 203 yX12_unitLast, Cond.instanceMethod yX12_unitLast, Cond.selects RX12 yX12_unitLast yX12_unitLast, Cond.code yX12_unitLast cX12_unitLast 3 (some .int), Cond.methodLink RX12 197 yX12_ran, Cond.instanceMethod yX12_ran, Cond.selects RX12 yX12_ran yX12_ran, Cond.code yX12_ran cX12_ran 2 none, Cond.methodLink RX12 200 yX12_jobLast, Cond.instanceMethod yX12_jobLast, Cond.selects RX12 yX12_jobLast yX12_jobLast, Cond.code yX12_jobLast cX12_jobLast 3 (some .int), Cond.methodLink RX12 206 yX12_jobFollow, Cond.instanceMethod yX12_jobFollow, Cond.selects RX12 yX12_jobFollow yX12_jobFollow, Cond.code yX12_jobFollow cX12_jobFollow 3 (some .int), Cond.methodLink RX12 213 yX12_weigh, Cond.instanceMethod yX12_weigh, Cond.selects RX12 yX12_weigh yX12_weigh, Cond.code yX12_weigh cX12_weigh 5 (some .int), Cond.methodLink RX12 216 yX12_follow]
def wsL_law_r37 : List Cond := [Cond.instanceMethod yX12_follow, Cond.selects RX12 yX12_follow yX12_follow, Cond.code yX12_follow cX12_follow 4 (some .int), Cond.methodLink RX12 222 yX12_tell, Cond.instanceMethod yX12_tell, Cond.selects RX12 yX12_tell yX12_tell, Cond.code yX12_tell cX12_tell 5 (some .int), Cond.methodLink RX12 219 yX12_jobTell, Cond.instanceMethod yX12_jobTell, Cond.selects RX12 yX12_jobTell yX12_jobTell, Cond.code yX12_jobTell cX12_jobTell 5 (some .int), Cond.methodLink RL 105 yX11_trace, Cond.instanceMethod yX11_trace, Cond.selects RX11 yX11_trace yX11_trace, Cond.code yX11_trace cX11_trace 2 (some .int), Cond.methodLink RX11 248 yX0_bodyAt, Cond.instanceMethod yX0_bodyAt, Cond.selects RX0 yX0_bodyAt yX0_bodyAt, Cond.code yX0_bodyAt cX0_bodyAt 2 (some .int), Cond.methodLink RL 108 yX12_trace, Cond.instanceMethod yX12_trace, Cond.selects RX12 yX12_trace yX12_trace, Cond.code yX12_trace cX12_trace 2 (some .int), Cond.methodLink RL 109 yX11_sheet]
def wsL_law_r38 : List Cond := [Cond.instanceMethod yX11_sheet, Cond.selects RX11 yX11_sheet yX11_sheet, Cond.code yX11_sheet cX11_sheet 4 (some .int), Cond.methodLink RX11 251 yX11_isSheet, Cond.static yX11_isSheet, Cond.code yX11_isSheet cX11_isSheet 1 (some .boolean), Cond.methodLink RX11 254 yX8_remove, Cond.instanceMethod yX8_remove, Cond.selects RX8 yX8_remove yX8_remove, Cond.code yX8_remove cX8_remove 1 none, Cond.fieldLink RX8 19 "FellersOrder$Sheet" "size" "I", Cond.methodLink RX11 257 yX8_make, Cond.instanceMethod yX8_make, Cond.selects RX8 yX8_make yX8_make, Cond.code yX8_make cX8_make 4 none, Cond.methodLink RL 112 yX12_sheet, Cond.instanceMethod yX12_sheet, Cond.selects RX12 yX12_sheet yX12_sheet, Cond.code yX12_sheet cX12_sheet 5 (some .int), Cond.methodLink RL 113 yX11_cell, Cond.instanceMethod yX11_cell, Cond.selects RX11 yX11_cell yX11_cell, Cond.code yX11_cell cX11_cell 5 (some .int), Cond.methodLink RX11 260 yX8_isMissing]
def wsL_law_r39 : List Cond := [Cond.instanceMethod yX8_isMissing, Cond.selects RX8 yX8_isMissing yX8_isMissing, Cond.code yX8_isMissing cX8_isMissing 1 (some .boolean), Cond.methodLink RX11 263 yX8_size, Cond.instanceMethod yX8_size, Cond.selects RX8 yX8_size yX8_size, Cond.code yX8_size cX8_size 1 (some .int), Cond.methodLink RX11 264 yX8_write, Cond.instanceMethod yX8_write, Cond.selects RX8 yX8_write yX8_write, Cond.code yX8_write cX8_write 3 none, Cond.methodLink RL 116 yX12_cell, Cond.instanceMethod yX12_cell, Cond.selects RX12 yX12_cell yX12_cell, Cond.code yX12_cell cX12_cell 4 (some .int), Cond.methodLink RL 117 yX11_fromSheet, Cond.instanceMethod yX11_fromSheet, Cond.selects RX11 yX11_fromSheet yX11_fromSheet, Cond.code yX11_fromSheet cX11_fromSheet 8 (some .int), Cond.methodLink RX11 267 yX8_refusalAs, Cond.instanceMethod yX8_refusalAs, Cond.selects RX8 yX8_refusalAs yX8_refusalAs, Cond.code yX8_refusalAs cX8_refusalAs 2 (some .int), Cond.methodLink RX8 22 yX8_isMissing]
def wsL_law_r40 : List Cond := [Cond.methodLink RX8 26 yX8_isOfSort, Cond.instanceMethod yX8_isOfSort, Cond.selects RX8 yX8_isOfSort yX8_isOfSort, Cond.code yX8_isOfSort cX8_isOfSort 2 (some .boolean), Cond.methodLink RX11 270 yX8_numberAt, Cond.instanceMethod yX8_numberAt, Cond.selects RX8 yX8_numberAt yX8_numberAt, Cond.code yX8_numberAt cX8_numberAt 2 (some .int), Cond.methodLink RL 120 yX12_fromSheet, Cond.instanceMethod yX12_fromSheet, Cond.selects RX12 yX12_fromSheet yX12_fromSheet, Cond.code yX12_fromSheet cX12_fromSheet 8 (some .int), Cond.constantLong RX12 225 (100), Cond.methodLink RL 121 yX11_forge, Cond.instanceMethod yX11_forge, Cond.selects RX11 yX11_forge yX11_forge, Cond.code yX11_forge cX11_forge 5 (some .int), Cond.methodLink RX11 273 yJ9_floorMod_7cf53, Cond.static yJ9_floorMod_7cf53, Cond.initialized RJ9, Cond.code yJ9_floorMod_7cf53 cJ9_floorMod_7cf53 3 (some .int), Cond.methodLink RX11 278 yX11_forgeSize, Cond.instanceMethod yX11_forgeSize, Cond.selects RX11 yX11_forgeSize yX11_forgeSize]
def wsL_law_r41 : List Cond := [Cond.code yX11_forgeSize cX11_forgeSize 4 (some .int), Cond.methodLink RX11 282 yX11_forgeCopy, Cond.instanceMethod yX11_forgeCopy, Cond.selects RX11 yX11_forgeCopy yX11_forgeCopy, Cond.code yX11_forgeCopy cX11_forgeCopy 4 (some .int), Cond.methodLink RX11 299 yX8_sumFrom, Cond.instanceMethod yX8_sumFrom, Cond.selects RX8 yX8_sumFrom yX8_sumFrom, Cond.code yX8_sumFrom cX8_sumFrom 5 (some .int), Cond.methodLink RX11 285 yX11_forgeLaying, Cond.instanceMethod yX11_forgeLaying, Cond.selects RX11 yX11_forgeLaying yX11_forgeLaying, Cond.code yX11_forgeLaying cX11_forgeLaying 2 (some .int), Cond.methodLink RX11 302 yX8_isOfSort, Cond.methodLink RX11 289 yX11_forgeUnit, Cond.instanceMethod yX11_forgeUnit, Cond.selects RX11 yX11_forgeUnit yX11_forgeUnit, Cond.code yX11_forgeUnit cX11_forgeUnit 2 (some .int), Cond.classLink RX11 47 "FellersOrder$UnitKind", Cond.methodLink RL 124 yX12_forge, Cond.instanceMethod yX12_forge, Cond.selects RX12 yX12_forge yX12_forge, Cond.code yX12_forge cX12_forge 5 (some .int), Cond.methodLink RX12 227 yX12_sum]
def wsL_law_r42 : List Cond := [Cond.instanceMethod yX12_sum, Cond.selects RX12 yX12_sum yX12_sum, Cond.code yX12_sum cX12_sum 5 (some .int), Cond.methodLink RX12 230 yX12_unitTaken, Cond.instanceMethod yX12_unitTaken, Cond.selects RX12 yX12_unitTaken yX12_unitTaken, Cond.code yX12_unitTaken cX12_unitTaken 4 (some .int), Cond.methodLink RL 125 yX11_undo, Cond.instanceMethod yX11_undo, Cond.selects RX11 yX11_undo yX11_undo, Cond.code yX11_undo cX11_undo 1 (some .int), Cond.methodLink RX11 292 yX2_takeBack, Cond.instanceMethod yX2_takeBack, Cond.selects RX2 yX2_takeBack yX2_takeBack, Cond.code yX2_takeBack cX2_takeBack 2 none, Cond.methodLink RX2 37 yX10_removeLast, Cond.instanceMethod yX10_removeLast, Cond.selects RX10 yX10_removeLast yX10_removeLast, Cond.code yX10_removeLast cX10_removeLast 1 none, Cond.methodLink RX2 42 yX10_measureAnew, Cond.methodLink RX2 46 yX10_unbind, Cond.methodLink RX2 50 yX10_bind, Cond.methodLink RL 128 yX12_undo, Cond.instanceMethod yX12_undo]
def wsL_law_r43 : List Cond := [Cond.selects RX12 yX12_undo yX12_undo, Cond.code yX12_undo cX12_undo 3 (some .int), Cond.methodLink RL 129 yX11_status, Cond.instanceMethod yX11_status, Cond.selects RX11 yX11_status yX11_status, Cond.code yX11_status cX11_status 1 (some .int), Cond.methodLink RL 132 yX12_status, Cond.instanceMethod yX12_status, Cond.selects RX12 yX12_status yX12_status, Cond.code yX12_status cX12_status 1 (some .int)]
def wsL_law : List Cond := (wsL_law_r1 ++ (wsL_law_r2 ++ (wsL_law_r3 ++ (wsL_law_r4 ++ (wsL_law_r5 ++ (wsL_law_r6 ++ (wsL_law_r7 ++ (wsL_law_r8 ++ (wsL_law_r9 ++ (wsL_law_r10 ++ (wsL_law_r11 ++ (wsL_law_r12 ++ (wsL_law_r13 ++ (wsL_law_r14 ++ (wsL_law_r15 ++ (wsL_law_r16 ++ (wsL_law_r17 ++ (wsL_law_r18 ++ (wsL_law_r19 ++ (wsL_law_r20 ++ (wsL_law_r21 ++ (wsL_law_r22 ++ (wsL_law_r23 ++ (wsL_law_r24 ++ (wsL_law_r25 ++ (wsL_law_r26 ++ (wsL_law_r27 ++ (wsL_law_r28 ++ (wsL_law_r29 ++ (wsL_law_r30 ++ (wsL_law_r31 ++ (wsL_law_r32 ++ (wsL_law_r33 ++ (wsL_law_r34 ++ (wsL_law_r35 ++ (wsL_law_r36 ++ (wsL_law_r37 ++ (wsL_law_r38 ++ (wsL_law_r39 ++ (wsL_law_r40 ++ (wsL_law_r41 ++ (wsL_law_r42 ++ wsL_law_r43)))))))))))))))))))))))))))))))))))))))))) ++ wsX110 ++ wsX120 ++ wsX100 ++ wsX70 ++ wsX60 ++ wsX20 ++ wsX00 ++ wsX40 ++ wsX90 ++ wsX30 ++ wsX10 ++ wsX50 ++ wsX80 ++ ([] : List Cond)
theorem inlX0 : ∀ w ∈ wsX00, w ∈ wsL_law := fun _ h => List.mem_append_left _ (List.mem_append_left _ (List.mem_append_left _ (List.mem_append_left _ (List.mem_append_left _ (List.mem_append_left _ (List.mem_append_left _ (List.mem_append_right _ h)))))))
theorem inlX1 : ∀ w ∈ wsX10, w ∈ wsL_law := fun _ h => List.mem_append_left _ (List.mem_append_left _ (List.mem_append_left _ (List.mem_append_right _ h)))
theorem inlX2 : ∀ w ∈ wsX20, w ∈ wsL_law := fun _ h => List.mem_append_left _ (List.mem_append_left _ (List.mem_append_left _ (List.mem_append_left _ (List.mem_append_left _ (List.mem_append_left _ (List.mem_append_left _ (List.mem_append_left _ (List.mem_append_right _ h))))))))
theorem inlX3 : ∀ w ∈ wsX30, w ∈ wsL_law := fun _ h => List.mem_append_left _ (List.mem_append_left _ (List.mem_append_left _ (List.mem_append_left _ (List.mem_append_right _ h))))
theorem inlX4 : ∀ w ∈ wsX40, w ∈ wsL_law := fun _ h => List.mem_append_left _ (List.mem_append_left _ (List.mem_append_left _ (List.mem_append_left _ (List.mem_append_left _ (List.mem_append_left _ (List.mem_append_right _ h))))))
theorem inlX5 : ∀ w ∈ wsX50, w ∈ wsL_law := fun _ h => List.mem_append_left _ (List.mem_append_left _ (List.mem_append_right _ h))
theorem inlX6 : ∀ w ∈ wsX60, w ∈ wsL_law := fun _ h => List.mem_append_left _ (List.mem_append_left _ (List.mem_append_left _ (List.mem_append_left _ (List.mem_append_left _ (List.mem_append_left _ (List.mem_append_left _ (List.mem_append_left _ (List.mem_append_left _ (List.mem_append_right _ h)))))))))
theorem inlX7 : ∀ w ∈ wsX70, w ∈ wsL_law := fun _ h => List.mem_append_left _ (List.mem_append_left _ (List.mem_append_left _ (List.mem_append_left _ (List.mem_append_left _ (List.mem_append_left _ (List.mem_append_left _ (List.mem_append_left _ (List.mem_append_left _ (List.mem_append_left _ (List.mem_append_right _ h))))))))))
theorem inlX8 : ∀ w ∈ wsX80, w ∈ wsL_law := fun _ h => List.mem_append_left _ (List.mem_append_right _ h)
theorem inlX9 : ∀ w ∈ wsX90, w ∈ wsL_law := fun _ h => List.mem_append_left _ (List.mem_append_left _ (List.mem_append_left _ (List.mem_append_left _ (List.mem_append_left _ (List.mem_append_right _ h)))))
theorem inlX10 : ∀ w ∈ wsX100, w ∈ wsL_law := fun _ h => List.mem_append_left _ (List.mem_append_left _ (List.mem_append_left _ (List.mem_append_left _ (List.mem_append_left _ (List.mem_append_left _ (List.mem_append_left _ (List.mem_append_left _ (List.mem_append_left _ (List.mem_append_left _ (List.mem_append_left _ (List.mem_append_right _ h)))))))))))
theorem inlX11 : ∀ w ∈ wsX110, w ∈ wsL_law := fun _ h => List.mem_append_left _ (List.mem_append_left _ (List.mem_append_left _ (List.mem_append_left _ (List.mem_append_left _ (List.mem_append_left _ (List.mem_append_left _ (List.mem_append_left _ (List.mem_append_left _ (List.mem_append_left _ (List.mem_append_left _ (List.mem_append_left _ (List.mem_append_left _ (List.mem_append_right _ h)))))))))))))
theorem inlX12 : ∀ w ∈ wsX120, w ∈ wsL_law := fun _ h => List.mem_append_left _ (List.mem_append_left _ (List.mem_append_left _ (List.mem_append_left _ (List.mem_append_left _ (List.mem_append_left _ (List.mem_append_left _ (List.mem_append_left _ (List.mem_append_left _ (List.mem_append_left _ (List.mem_append_left _ (List.mem_append_left _ (List.mem_append_right _ h))))))))))))
theorem dX0_init_0 : decode cX0_init 0 = .ok (.aload_n 0, 1) := by decide +kernel
theorem dX0_init_1 : decode cX0_init 1 = .ok (.invokespecial 3, 3) := by decide +kernel
theorem dX0_init_4 : decode cX0_init 4 = .ok (.aload_n 0, 1) := by decide +kernel
theorem dX0_init_5 : decode cX0_init 5 = .ok (.bipush 50, 2) := by decide +kernel
theorem dX0_init_7 : decode cX0_init 7 = .ok (.newarray .int, 2) := by decide +kernel
theorem dX0_init_9 : decode cX0_init 9 = .ok (.putfield 9, 3) := by decide +kernel
theorem dX0_init_12 : decode cX0_init 12 = .ok (.return_, 1) := by decide +kernel
theorem dX0_take_0 : decode cX0_take 0 = .ok (.aload_n 0, 1) := by decide +kernel
theorem dX0_take_1 : decode cX0_take 1 = .ok (.iconst 0, 1) := by decide +kernel
theorem dX0_take_2 : decode cX0_take 2 = .ok (.putfield 15, 3) := by decide +kernel
theorem dX0_take_5 : decode cX0_take 5 = .ok (.aload_n 0, 1) := by decide +kernel
theorem dX0_take_6 : decode cX0_take 6 = .ok (.aload_n 1, 1) := by decide +kernel
theorem dX0_take_7 : decode cX0_take 7 = .ok (.iload_n 2, 1) := by decide +kernel
theorem dX0_take_8 : decode cX0_take 8 = .ok (.iconst 0, 1) := by decide +kernel
theorem dX0_take_9 : decode cX0_take 9 = .ok (.invokevirtual 19, 3) := by decide +kernel
theorem dX0_take_12 : decode cX0_take 12 = .ok (.putfield 25, 3) := by decide +kernel
theorem dX0_take_15 : decode cX0_take 15 = .ok (.aload_n 0, 1) := by decide +kernel
theorem dX0_take_16 : decode cX0_take 16 = .ok (.aload_n 1, 1) := by decide +kernel
theorem dX0_take_17 : decode cX0_take 17 = .ok (.iload_n 2, 1) := by decide +kernel
theorem dX0_take_18 : decode cX0_take 18 = .ok (.iconst 1, 1) := by decide +kernel
theorem dX0_take_19 : decode cX0_take 19 = .ok (.invokevirtual 19, 3) := by decide +kernel
theorem dX0_take_22 : decode cX0_take 22 = .ok (.putfield 28, 3) := by decide +kernel
theorem dX0_take_25 : decode cX0_take 25 = .ok (.aload_n 0, 1) := by decide +kernel
theorem dX0_take_26 : decode cX0_take 26 = .ok (.aload_n 1, 1) := by decide +kernel
theorem dX0_take_27 : decode cX0_take 27 = .ok (.iload_n 2, 1) := by decide +kernel
theorem dX0_take_28 : decode cX0_take 28 = .ok (.iconst 2, 1) := by decide +kernel
theorem dX0_take_29 : decode cX0_take 29 = .ok (.invokevirtual 19, 3) := by decide +kernel
theorem dX0_take_32 : decode cX0_take 32 = .ok (.putfield 31, 3) := by decide +kernel
theorem dX0_take_35 : decode cX0_take 35 = .ok (.aload_n 0, 1) := by decide +kernel
theorem dX0_take_36 : decode cX0_take 36 = .ok (.aload_n 1, 1) := by decide +kernel
theorem dX0_take_37 : decode cX0_take 37 = .ok (.iload_n 2, 1) := by decide +kernel
theorem dX0_take_38 : decode cX0_take 38 = .ok (.invokevirtual 34, 3) := by decide +kernel
theorem dX0_take_41 : decode cX0_take 41 = .ok (.invokestatic 38, 3) := by decide +kernel
theorem dX0_take_44 : decode cX0_take 44 = .ok (.putfield 43, 3) := by decide +kernel
theorem dX0_take_47 : decode cX0_take 47 = .ok (.return_, 1) := by decide +kernel
theorem dX0_begin_0 : decode cX0_begin 0 = .ok (.aload_n 0, 1) := by decide +kernel
theorem dX0_begin_1 : decode cX0_begin 1 = .ok (.getfield 15, 3) := by decide +kernel
theorem dX0_begin_4 : decode cX0_begin 4 = .ok (.bipush 50, 2) := by decide +kernel
theorem dX0_begin_6 : decode cX0_begin 6 = .ok (.if_icmp .ge 23, 3) := by decide +kernel
theorem dX0_begin_9 : decode cX0_begin 9 = .ok (.aload_n 0, 1) := by decide +kernel
theorem dX0_begin_10 : decode cX0_begin 10 = .ok (.getfield 9, 3) := by decide +kernel
theorem dX0_begin_13 : decode cX0_begin 13 = .ok (.aload_n 0, 1) := by decide +kernel
theorem dX0_begin_14 : decode cX0_begin 14 = .ok (.getfield 15, 3) := by decide +kernel
theorem dX0_begin_17 : decode cX0_begin 17 = .ok (.iload_n 1, 1) := by decide +kernel
theorem dX0_begin_18 : decode cX0_begin 18 = .ok (.iastore, 1) := by decide +kernel
theorem dX0_begin_19 : decode cX0_begin 19 = .ok (.aload_n 0, 1) := by decide +kernel
theorem dX0_begin_20 : decode cX0_begin 20 = .ok (.dup, 1) := by decide +kernel
theorem dX0_begin_21 : decode cX0_begin 21 = .ok (.getfield 15, 3) := by decide +kernel
theorem dX0_begin_24 : decode cX0_begin 24 = .ok (.iconst 1, 1) := by decide +kernel
theorem dX0_begin_25 : decode cX0_begin 25 = .ok (.iadd, 1) := by decide +kernel
theorem dX0_begin_26 : decode cX0_begin 26 = .ok (.putfield 15, 3) := by decide +kernel
theorem dX0_begin_29 : decode cX0_begin 29 = .ok (.return_, 1) := by decide +kernel
theorem dX0_begun_0 : decode cX0_begun 0 = .ok (.aload_n 0, 1) := by decide +kernel
theorem dX0_begun_1 : decode cX0_begun 1 = .ok (.getfield 15, 3) := by decide +kernel
theorem dX0_begun_4 : decode cX0_begun 4 = .ok (.ireturn, 1) := by decide +kernel
theorem dX0_bodyAt_0 : decode cX0_bodyAt 0 = .ok (.iload_n 1, 1) := by decide +kernel
theorem dX0_bodyAt_1 : decode cX0_bodyAt 1 = .ok (.ifCond .lt 20, 3) := by decide +kernel
theorem dX0_bodyAt_4 : decode cX0_bodyAt 4 = .ok (.iload_n 1, 1) := by decide +kernel
theorem dX0_bodyAt_5 : decode cX0_bodyAt 5 = .ok (.aload_n 0, 1) := by decide +kernel
theorem dX0_bodyAt_6 : decode cX0_bodyAt 6 = .ok (.getfield 15, 3) := by decide +kernel
theorem dX0_bodyAt_9 : decode cX0_bodyAt 9 = .ok (.if_icmp .ge 12, 3) := by decide +kernel
theorem dX0_bodyAt_12 : decode cX0_bodyAt 12 = .ok (.aload_n 0, 1) := by decide +kernel
theorem dX0_bodyAt_13 : decode cX0_bodyAt 13 = .ok (.getfield 9, 3) := by decide +kernel
theorem dX0_bodyAt_16 : decode cX0_bodyAt 16 = .ok (.iload_n 1, 1) := by decide +kernel
theorem dX0_bodyAt_17 : decode cX0_bodyAt 17 = .ok (.iaload, 1) := by decide +kernel
theorem dX0_bodyAt_18 : decode cX0_bodyAt 18 = .ok (.goto 4, 3) := by decide +kernel
theorem dX0_bodyAt_21 : decode cX0_bodyAt 21 = .ok (.iconst (-1), 1) := by decide +kernel
theorem dX0_bodyAt_22 : decode cX0_bodyAt 22 = .ok (.ireturn, 1) := by decide +kernel
theorem dX1_init_0 : decode cX1_init 0 = .ok (.aload_n 0, 1) := by decide +kernel
theorem dX1_init_1 : decode cX1_init 1 = .ok (.invokespecial 1, 3) := by decide +kernel
theorem dX1_init_4 : decode cX1_init 4 = .ok (.return_, 1) := by decide +kernel
theorem dX1_follow_0 : decode cX1_follow 0 = .ok (.aload_n 1, 1) := by decide +kernel
theorem dX1_follow_1 : decode cX1_follow 1 = .ok (.bipush 40, 2) := by decide +kernel
theorem dX1_follow_3 : decode cX1_follow 3 = .ok (.invokevirtual 7, 3) := by decide +kernel
theorem dX1_follow_6 : decode cX1_follow 6 = .ok (.aload_n 0, 1) := by decide +kernel
theorem dX1_follow_7 : decode cX1_follow 7 = .ok (.aload_n 1, 1) := by decide +kernel
theorem dX1_follow_8 : decode cX1_follow 8 = .ok (.iload_n 2, 1) := by decide +kernel
theorem dX1_follow_9 : decode cX1_follow 9 = .ok (.invokespecial 13, 3) := by decide +kernel
theorem dX1_follow_12 : decode cX1_follow 12 = .ok (.bipush 7, 2) := by decide +kernel
theorem dX1_follow_14 : decode cX1_follow 14 = .ok (.isub, 1) := by decide +kernel
theorem dX1_follow_15 : decode cX1_follow 15 = .ok (.ireturn, 1) := by decide +kernel
theorem dX1_last_0 : decode cX1_last 0 = .ok (.aload_n 1, 1) := by decide +kernel
theorem dX1_last_1 : decode cX1_last 1 = .ok (.bipush 41, 2) := by decide +kernel
theorem dX1_last_3 : decode cX1_last 3 = .ok (.invokevirtual 7, 3) := by decide +kernel
theorem dX1_last_6 : decode cX1_last 6 = .ok (.aload_n 0, 1) := by decide +kernel
theorem dX1_last_7 : decode cX1_last 7 = .ok (.aload_n 1, 1) := by decide +kernel
theorem dX1_last_8 : decode cX1_last 8 = .ok (.iload_n 2, 1) := by decide +kernel
theorem dX1_last_9 : decode cX1_last 9 = .ok (.invokespecial 17, 3) := by decide +kernel
theorem dX1_last_12 : decode cX1_last 12 = .ok (.aload_n 0, 1) := by decide +kernel
theorem dX1_last_13 : decode cX1_last 13 = .ok (.aload_n 1, 1) := by decide +kernel
theorem dX1_last_14 : decode cX1_last 14 = .ok (.iload_n 2, 1) := by decide +kernel
theorem dX1_last_15 : decode cX1_last 15 = .ok (.invokespecial 13, 3) := by decide +kernel
theorem dX1_last_18 : decode cX1_last 18 = .ok (.iadd, 1) := by decide +kernel
theorem dX1_last_19 : decode cX1_last 19 = .ok (.ireturn, 1) := by decide +kernel
theorem dX2_init_0 : decode cX2_init 0 = .ok (.aload_n 0, 1) := by decide +kernel
theorem dX2_init_1 : decode cX2_init 1 = .ok (.invokespecial 3, 3) := by decide +kernel
theorem dX2_init_4 : decode cX2_init 4 = .ok (.aload_n 0, 1) := by decide +kernel
theorem dX2_init_5 : decode cX2_init 5 = .ok (.bipush 12, 2) := by decide +kernel
theorem dX2_init_7 : decode cX2_init 7 = .ok (.newarray .int, 2) := by decide +kernel
theorem dX2_init_9 : decode cX2_init 9 = .ok (.putfield 9, 3) := by decide +kernel
theorem dX2_init_12 : decode cX2_init 12 = .ok (.aload_n 0, 1) := by decide +kernel
theorem dX2_init_13 : decode cX2_init 13 = .ok (.bipush 12, 2) := by decide +kernel
theorem dX2_init_15 : decode cX2_init 15 = .ok (.newarray .int, 2) := by decide +kernel
theorem dX2_init_17 : decode cX2_init 17 = .ok (.putfield 15, 3) := by decide +kernel
theorem dX2_init_20 : decode cX2_init 20 = .ok (.aload_n 0, 1) := by decide +kernel
theorem dX2_init_21 : decode cX2_init 21 = .ok (.bipush 12, 2) := by decide +kernel
theorem dX2_init_23 : decode cX2_init 23 = .ok (.newarray .int, 2) := by decide +kernel
theorem dX2_init_25 : decode cX2_init 25 = .ok (.putfield 18, 3) := by decide +kernel
theorem dX2_init_28 : decode cX2_init 28 = .ok (.aload_n 0, 1) := by decide +kernel
theorem dX2_init_29 : decode cX2_init 29 = .ok (.bipush 12, 2) := by decide +kernel
theorem dX2_init_31 : decode cX2_init 31 = .ok (.newarray .int, 2) := by decide +kernel
theorem dX2_init_33 : decode cX2_init 33 = .ok (.putfield 21, 3) := by decide +kernel
theorem dX2_init_36 : decode cX2_init 36 = .ok (.return_, 1) := by decide +kernel
theorem dX2_size_0 : decode cX2_size 0 = .ok (.aload_n 0, 1) := by decide +kernel
theorem dX2_size_1 : decode cX2_size 1 = .ok (.getfield 24, 3) := by decide +kernel
theorem dX2_size_4 : decode cX2_size 4 = .ok (.ireturn, 1) := by decide +kernel
theorem dX2_keep_0 : decode cX2_keep 0 = .ok (.aload_n 0, 1) := by decide +kernel
theorem dX2_keep_1 : decode cX2_keep 1 = .ok (.getfield 9, 3) := by decide +kernel
theorem dX2_keep_4 : decode cX2_keep 4 = .ok (.aload_n 0, 1) := by decide +kernel
theorem dX2_keep_5 : decode cX2_keep 5 = .ok (.getfield 28, 3) := by decide +kernel
theorem dX2_keep_8 : decode cX2_keep 8 = .ok (.iload_n 1, 1) := by decide +kernel
theorem dX2_keep_9 : decode cX2_keep 9 = .ok (.iastore, 1) := by decide +kernel
theorem dX2_keep_10 : decode cX2_keep 10 = .ok (.aload_n 0, 1) := by decide +kernel
theorem dX2_keep_11 : decode cX2_keep 11 = .ok (.getfield 15, 3) := by decide +kernel
theorem dX2_keep_14 : decode cX2_keep 14 = .ok (.aload_n 0, 1) := by decide +kernel
theorem dX2_keep_15 : decode cX2_keep 15 = .ok (.getfield 28, 3) := by decide +kernel
theorem dX2_keep_18 : decode cX2_keep 18 = .ok (.iload_n 2, 1) := by decide +kernel
theorem dX2_keep_19 : decode cX2_keep 19 = .ok (.iastore, 1) := by decide +kernel
theorem dX2_keep_20 : decode cX2_keep 20 = .ok (.aload_n 0, 1) := by decide +kernel
theorem dX2_keep_21 : decode cX2_keep 21 = .ok (.getfield 18, 3) := by decide +kernel
theorem dX2_keep_24 : decode cX2_keep 24 = .ok (.aload_n 0, 1) := by decide +kernel
theorem dX2_keep_25 : decode cX2_keep 25 = .ok (.getfield 28, 3) := by decide +kernel
theorem dX2_keep_28 : decode cX2_keep 28 = .ok (.iload_n 3, 1) := by decide +kernel
theorem dX2_keep_29 : decode cX2_keep 29 = .ok (.iastore, 1) := by decide +kernel
theorem dX2_keep_30 : decode cX2_keep 30 = .ok (.aload_n 0, 1) := by decide +kernel
theorem dX2_keep_31 : decode cX2_keep 31 = .ok (.getfield 21, 3) := by decide +kernel
theorem dX2_keep_34 : decode cX2_keep 34 = .ok (.aload_n 0, 1) := by decide +kernel
theorem dX2_keep_35 : decode cX2_keep 35 = .ok (.getfield 28, 3) := by decide +kernel
theorem dX2_keep_38 : decode cX2_keep 38 = .ok (.iload 4, 2) := by decide +kernel
theorem dX2_keep_40 : decode cX2_keep 40 = .ok (.iastore, 1) := by decide +kernel
theorem dX2_keep_41 : decode cX2_keep 41 = .ok (.aload_n 0, 1) := by decide +kernel
theorem dX2_keep_42 : decode cX2_keep 42 = .ok (.aload_n 0, 1) := by decide +kernel
theorem dX2_keep_43 : decode cX2_keep 43 = .ok (.getfield 28, 3) := by decide +kernel
theorem dX2_keep_46 : decode cX2_keep 46 = .ok (.bipush 11, 2) := by decide +kernel
theorem dX2_keep_48 : decode cX2_keep 48 = .ok (.if_icmp .ne 7, 3) := by decide +kernel
theorem dX2_keep_51 : decode cX2_keep 51 = .ok (.iconst 0, 1) := by decide +kernel
theorem dX2_keep_52 : decode cX2_keep 52 = .ok (.goto 9, 3) := by decide +kernel
theorem dX2_keep_55 : decode cX2_keep 55 = .ok (.aload_n 0, 1) := by decide +kernel
theorem dX2_keep_56 : decode cX2_keep 56 = .ok (.getfield 28, 3) := by decide +kernel
theorem dX2_keep_59 : decode cX2_keep 59 = .ok (.iconst 1, 1) := by decide +kernel
theorem dX2_keep_60 : decode cX2_keep 60 = .ok (.iadd, 1) := by decide +kernel
theorem dX2_keep_61 : decode cX2_keep 61 = .ok (.putfield 28, 3) := by decide +kernel
theorem dX2_keep_64 : decode cX2_keep 64 = .ok (.aload_n 0, 1) := by decide +kernel
theorem dX2_keep_65 : decode cX2_keep 65 = .ok (.aload_n 0, 1) := by decide +kernel
theorem dX2_keep_66 : decode cX2_keep 66 = .ok (.getfield 24, 3) := by decide +kernel
theorem dX2_keep_69 : decode cX2_keep 69 = .ok (.iconst 1, 1) := by decide +kernel
theorem dX2_keep_70 : decode cX2_keep 70 = .ok (.iadd, 1) := by decide +kernel
theorem dX2_keep_71 : decode cX2_keep 71 = .ok (.bipush 12, 2) := by decide +kernel
theorem dX2_keep_73 : decode cX2_keep 73 = .ok (.invokestatic 31, 3) := by decide +kernel
theorem dX2_keep_76 : decode cX2_keep 76 = .ok (.putfield 24, 3) := by decide +kernel
theorem dX2_keep_79 : decode cX2_keep 79 = .ok (.return_, 1) := by decide +kernel
theorem dX2_takeBack_0 : decode cX2_takeBack 0 = .ok (.aload_n 0, 1) := by decide +kernel
theorem dX2_takeBack_1 : decode cX2_takeBack 1 = .ok (.aload_n 0, 1) := by decide +kernel
theorem dX2_takeBack_2 : decode cX2_takeBack 2 = .ok (.getfield 28, 3) := by decide +kernel
theorem dX2_takeBack_5 : decode cX2_takeBack 5 = .ok (.ifCond .ne 8, 3) := by decide +kernel
theorem dX2_takeBack_8 : decode cX2_takeBack 8 = .ok (.bipush 11, 2) := by decide +kernel
theorem dX2_takeBack_10 : decode cX2_takeBack 10 = .ok (.goto 9, 3) := by decide +kernel
theorem dX2_takeBack_13 : decode cX2_takeBack 13 = .ok (.aload_n 0, 1) := by decide +kernel
theorem dX2_takeBack_14 : decode cX2_takeBack 14 = .ok (.getfield 28, 3) := by decide +kernel
theorem dX2_takeBack_17 : decode cX2_takeBack 17 = .ok (.iconst 1, 1) := by decide +kernel
theorem dX2_takeBack_18 : decode cX2_takeBack 18 = .ok (.isub, 1) := by decide +kernel
theorem dX2_takeBack_19 : decode cX2_takeBack 19 = .ok (.putfield 28, 3) := by decide +kernel
theorem dX2_takeBack_22 : decode cX2_takeBack 22 = .ok (.aload_n 0, 1) := by decide +kernel
theorem dX2_takeBack_23 : decode cX2_takeBack 23 = .ok (.dup, 1) := by decide +kernel
theorem dX2_takeBack_24 : decode cX2_takeBack 24 = .ok (.getfield 24, 3) := by decide +kernel
theorem dX2_takeBack_27 : decode cX2_takeBack 27 = .ok (.iconst 1, 1) := by decide +kernel
theorem dX2_takeBack_28 : decode cX2_takeBack 28 = .ok (.isub, 1) := by decide +kernel
theorem dX2_takeBack_29 : decode cX2_takeBack 29 = .ok (.putfield 24, 3) := by decide +kernel
theorem dX2_takeBack_32 : decode cX2_takeBack 32 = .ok (.aload_n 0, 1) := by decide +kernel
theorem dX2_takeBack_33 : decode cX2_takeBack 33 = .ok (.getfield 9, 3) := by decide +kernel
theorem dX2_takeBack_36 : decode cX2_takeBack 36 = .ok (.aload_n 0, 1) := by decide +kernel
theorem dX2_takeBack_37 : decode cX2_takeBack 37 = .ok (.getfield 28, 3) := by decide +kernel
theorem dX2_takeBack_40 : decode cX2_takeBack 40 = .ok (.iaload, 1) := by decide +kernel
theorem dX2_takeBack_41 : decode cX2_takeBack 41 = .ok (.tableswitch 93 0 2 #[27, 34, 68], 27) := by decide +kernel
theorem dX2_takeBack_68 : decode cX2_takeBack 68 = .ok (.aload_n 1, 1) := by decide +kernel
theorem dX2_takeBack_69 : decode cX2_takeBack 69 = .ok (.invokevirtual 37, 3) := by decide +kernel
theorem dX2_takeBack_72 : decode cX2_takeBack 72 = .ok (.goto 84, 3) := by decide +kernel
theorem dX2_takeBack_75 : decode cX2_takeBack 75 = .ok (.aload_n 1, 1) := by decide +kernel
theorem dX2_takeBack_76 : decode cX2_takeBack 76 = .ok (.aload_n 0, 1) := by decide +kernel
theorem dX2_takeBack_77 : decode cX2_takeBack 77 = .ok (.getfield 15, 3) := by decide +kernel
theorem dX2_takeBack_80 : decode cX2_takeBack 80 = .ok (.aload_n 0, 1) := by decide +kernel
theorem dX2_takeBack_81 : decode cX2_takeBack 81 = .ok (.getfield 28, 3) := by decide +kernel
theorem dX2_takeBack_84 : decode cX2_takeBack 84 = .ok (.iaload, 1) := by decide +kernel
theorem dX2_takeBack_85 : decode cX2_takeBack 85 = .ok (.aload_n 0, 1) := by decide +kernel
theorem dX2_takeBack_86 : decode cX2_takeBack 86 = .ok (.getfield 18, 3) := by decide +kernel
theorem dX2_takeBack_89 : decode cX2_takeBack 89 = .ok (.aload_n 0, 1) := by decide +kernel
theorem dX2_takeBack_90 : decode cX2_takeBack 90 = .ok (.getfield 28, 3) := by decide +kernel
theorem dX2_takeBack_93 : decode cX2_takeBack 93 = .ok (.iaload, 1) := by decide +kernel
theorem dX2_takeBack_94 : decode cX2_takeBack 94 = .ok (.aload_n 0, 1) := by decide +kernel
theorem dX2_takeBack_95 : decode cX2_takeBack 95 = .ok (.getfield 21, 3) := by decide +kernel
theorem dX2_takeBack_98 : decode cX2_takeBack 98 = .ok (.aload_n 0, 1) := by decide +kernel
theorem dX2_takeBack_99 : decode cX2_takeBack 99 = .ok (.getfield 28, 3) := by decide +kernel
theorem dX2_takeBack_102 : decode cX2_takeBack 102 = .ok (.iaload, 1) := by decide +kernel
theorem dX2_takeBack_103 : decode cX2_takeBack 103 = .ok (.invokevirtual 42, 3) := by decide +kernel
theorem dX2_takeBack_106 : decode cX2_takeBack 106 = .ok (.goto 50, 3) := by decide +kernel
theorem dX2_takeBack_109 : decode cX2_takeBack 109 = .ok (.aload_n 1, 1) := by decide +kernel
theorem dX2_takeBack_110 : decode cX2_takeBack 110 = .ok (.aload_n 0, 1) := by decide +kernel
theorem dX2_takeBack_111 : decode cX2_takeBack 111 = .ok (.getfield 15, 3) := by decide +kernel
theorem dX2_takeBack_114 : decode cX2_takeBack 114 = .ok (.aload_n 0, 1) := by decide +kernel
theorem dX2_takeBack_115 : decode cX2_takeBack 115 = .ok (.getfield 28, 3) := by decide +kernel
theorem dX2_takeBack_118 : decode cX2_takeBack 118 = .ok (.iaload, 1) := by decide +kernel
theorem dX2_takeBack_119 : decode cX2_takeBack 119 = .ok (.aload_n 0, 1) := by decide +kernel
theorem dX2_takeBack_120 : decode cX2_takeBack 120 = .ok (.getfield 18, 3) := by decide +kernel
theorem dX2_takeBack_123 : decode cX2_takeBack 123 = .ok (.aload_n 0, 1) := by decide +kernel
theorem dX2_takeBack_124 : decode cX2_takeBack 124 = .ok (.getfield 28, 3) := by decide +kernel
theorem dX2_takeBack_127 : decode cX2_takeBack 127 = .ok (.iaload, 1) := by decide +kernel
theorem dX2_takeBack_128 : decode cX2_takeBack 128 = .ok (.invokevirtual 46, 3) := by decide +kernel
theorem dX2_takeBack_131 : decode cX2_takeBack 131 = .ok (.goto 25, 3) := by decide +kernel
theorem dX2_takeBack_134 : decode cX2_takeBack 134 = .ok (.aload_n 1, 1) := by decide +kernel
theorem dX2_takeBack_135 : decode cX2_takeBack 135 = .ok (.aload_n 0, 1) := by decide +kernel
theorem dX2_takeBack_136 : decode cX2_takeBack 136 = .ok (.getfield 15, 3) := by decide +kernel
theorem dX2_takeBack_139 : decode cX2_takeBack 139 = .ok (.aload_n 0, 1) := by decide +kernel
theorem dX2_takeBack_140 : decode cX2_takeBack 140 = .ok (.getfield 28, 3) := by decide +kernel
theorem dX2_takeBack_143 : decode cX2_takeBack 143 = .ok (.iaload, 1) := by decide +kernel
theorem dX2_takeBack_144 : decode cX2_takeBack 144 = .ok (.aload_n 0, 1) := by decide +kernel
theorem dX2_takeBack_145 : decode cX2_takeBack 145 = .ok (.getfield 18, 3) := by decide +kernel
theorem dX2_takeBack_148 : decode cX2_takeBack 148 = .ok (.aload_n 0, 1) := by decide +kernel
theorem dX2_takeBack_149 : decode cX2_takeBack 149 = .ok (.getfield 28, 3) := by decide +kernel
theorem dX2_takeBack_152 : decode cX2_takeBack 152 = .ok (.iaload, 1) := by decide +kernel
theorem dX2_takeBack_153 : decode cX2_takeBack 153 = .ok (.invokevirtual 50, 3) := by decide +kernel
theorem dX2_takeBack_156 : decode cX2_takeBack 156 = .ok (.return_, 1) := by decide +kernel
theorem dX3_init_0 : decode cX3_init 0 = .ok (.aload_n 0, 1) := by decide +kernel
theorem dX3_init_1 : decode cX3_init 1 = .ok (.invokespecial 1, 3) := by decide +kernel
theorem dX3_init_4 : decode cX3_init 4 = .ok (.return_, 1) := by decide +kernel
theorem dX3_weigh_0 : decode cX3_weigh 0 = .ok (.aload_n 1, 1) := by decide +kernel
theorem dX3_weigh_1 : decode cX3_weigh 1 = .ok (.bipush 30, 2) := by decide +kernel
theorem dX3_weigh_3 : decode cX3_weigh 3 = .ok (.invokevirtual 7, 3) := by decide +kernel
theorem dX3_weigh_6 : decode cX3_weigh 6 = .ok (.aload_n 0, 1) := by decide +kernel
theorem dX3_weigh_7 : decode cX3_weigh 7 = .ok (.aload_n 1, 1) := by decide +kernel
theorem dX3_weigh_8 : decode cX3_weigh 8 = .ok (.iload_n 2, 1) := by decide +kernel
theorem dX3_weigh_9 : decode cX3_weigh 9 = .ok (.invokespecial 13, 3) := by decide +kernel
theorem dX3_weigh_12 : decode cX3_weigh 12 = .ok (.aload_n 1, 1) := by decide +kernel
theorem dX3_weigh_13 : decode cX3_weigh 13 = .ok (.getfield 17, 3) := by decide +kernel
theorem dX3_weigh_16 : decode cX3_weigh 16 = .ok (.iadd, 1) := by decide +kernel
theorem dX3_weigh_17 : decode cX3_weigh 17 = .ok (.ireturn, 1) := by decide +kernel
theorem dX4_init_0 : decode cX4_init 0 = .ok (.aload_n 0, 1) := by decide +kernel
theorem dX4_init_1 : decode cX4_init 1 = .ok (.invokespecial 1, 3) := by decide +kernel
theorem dX4_init_4 : decode cX4_init 4 = .ok (.return_, 1) := by decide +kernel
theorem dX4_last_0 : decode cX4_last 0 = .ok (.aload_n 1, 1) := by decide +kernel
theorem dX4_last_1 : decode cX4_last 1 = .ok (.bipush 10, 2) := by decide +kernel
theorem dX4_last_3 : decode cX4_last 3 = .ok (.invokevirtual 7, 3) := by decide +kernel
theorem dX4_last_6 : decode cX4_last 6 = .ok (.iload_n 2, 1) := by decide +kernel
theorem dX4_last_7 : decode cX4_last 7 = .ok (.aload_n 1, 1) := by decide +kernel
theorem dX4_last_8 : decode cX4_last 8 = .ok (.getfield 13, 3) := by decide +kernel
theorem dX4_last_11 : decode cX4_last 11 = .ok (.iadd, 1) := by decide +kernel
theorem dX4_last_12 : decode cX4_last 12 = .ok (.ireturn, 1) := by decide +kernel
theorem dX4_weigh_0 : decode cX4_weigh 0 = .ok (.aload_n 1, 1) := by decide +kernel
theorem dX4_weigh_1 : decode cX4_weigh 1 = .ok (.bipush 11, 2) := by decide +kernel
theorem dX4_weigh_3 : decode cX4_weigh 3 = .ok (.invokevirtual 7, 3) := by decide +kernel
theorem dX4_weigh_6 : decode cX4_weigh 6 = .ok (.aload_n 0, 1) := by decide +kernel
theorem dX4_weigh_7 : decode cX4_weigh 7 = .ok (.aload_n 1, 1) := by decide +kernel
theorem dX4_weigh_8 : decode cX4_weigh 8 = .ok (.iload_n 2, 1) := by decide +kernel
theorem dX4_weigh_9 : decode cX4_weigh 9 = .ok (.invokevirtual 17, 3) := by decide +kernel
theorem dX4_weigh_12 : decode cX4_weigh 12 = .ok (.aload_n 1, 1) := by decide +kernel
theorem dX4_weigh_13 : decode cX4_weigh 13 = .ok (.getfield 23, 3) := by decide +kernel
theorem dX4_weigh_16 : decode cX4_weigh 16 = .ok (.imul, 1) := by decide +kernel
theorem dX4_weigh_17 : decode cX4_weigh 17 = .ok (.ireturn, 1) := by decide +kernel
theorem dX4_follow_0 : decode cX4_follow 0 = .ok (.aload_n 1, 1) := by decide +kernel
theorem dX4_follow_1 : decode cX4_follow 1 = .ok (.bipush 12, 2) := by decide +kernel
theorem dX4_follow_3 : decode cX4_follow 3 = .ok (.invokevirtual 7, 3) := by decide +kernel
theorem dX4_follow_6 : decode cX4_follow 6 = .ok (.iload_n 2, 1) := by decide +kernel
theorem dX4_follow_7 : decode cX4_follow 7 = .ok (.aload_n 1, 1) := by decide +kernel
theorem dX4_follow_8 : decode cX4_follow 8 = .ok (.getfield 26, 3) := by decide +kernel
theorem dX4_follow_11 : decode cX4_follow 11 = .ok (.iadd, 1) := by decide +kernel
theorem dX4_follow_12 : decode cX4_follow 12 = .ok (.ireturn, 1) := by decide +kernel
theorem dX4_tell_0 : decode cX4_tell 0 = .ok (.aload_n 1, 1) := by decide +kernel
theorem dX4_tell_1 : decode cX4_tell 1 = .ok (.bipush 13, 2) := by decide +kernel
theorem dX4_tell_3 : decode cX4_tell 3 = .ok (.invokevirtual 7, 3) := by decide +kernel
theorem dX4_tell_6 : decode cX4_tell 6 = .ok (.aload_n 0, 1) := by decide +kernel
theorem dX4_tell_7 : decode cX4_tell 7 = .ok (.aload_n 1, 1) := by decide +kernel
theorem dX4_tell_8 : decode cX4_tell 8 = .ok (.iload_n 2, 1) := by decide +kernel
theorem dX4_tell_9 : decode cX4_tell 9 = .ok (.invokevirtual 29, 3) := by decide +kernel
theorem dX4_tell_12 : decode cX4_tell 12 = .ok (.aload_n 0, 1) := by decide +kernel
theorem dX4_tell_13 : decode cX4_tell 13 = .ok (.aload_n 1, 1) := by decide +kernel
theorem dX4_tell_14 : decode cX4_tell 14 = .ok (.iload_n 2, 1) := by decide +kernel
theorem dX4_tell_15 : decode cX4_tell 15 = .ok (.invokevirtual 32, 3) := by decide +kernel
theorem dX4_tell_18 : decode cX4_tell 18 = .ok (.isub, 1) := by decide +kernel
theorem dX4_tell_19 : decode cX4_tell 19 = .ok (.ireturn, 1) := by decide +kernel
theorem dX5_init_0 : decode cX5_init 0 = .ok (.aload_n 0, 1) := by decide +kernel
theorem dX5_init_1 : decode cX5_init 1 = .ok (.invokespecial 1, 3) := by decide +kernel
theorem dX5_init_4 : decode cX5_init 4 = .ok (.return_, 1) := by decide +kernel
theorem dX5_last_0 : decode cX5_last 0 = .ok (.aload_n 1, 1) := by decide +kernel
theorem dX5_last_1 : decode cX5_last 1 = .ok (.bipush 50, 2) := by decide +kernel
theorem dX5_last_3 : decode cX5_last 3 = .ok (.invokevirtual 7, 3) := by decide +kernel
theorem dX5_last_6 : decode cX5_last 6 = .ok (.aload_n 0, 1) := by decide +kernel
theorem dX5_last_7 : decode cX5_last 7 = .ok (.aload_n 1, 1) := by decide +kernel
theorem dX5_last_8 : decode cX5_last 8 = .ok (.iload_n 2, 1) := by decide +kernel
theorem dX5_last_9 : decode cX5_last 9 = .ok (.aload_n 1, 1) := by decide +kernel
theorem dX5_last_10 : decode cX5_last 10 = .ok (.getfield 13, 3) := by decide +kernel
theorem dX5_last_13 : decode cX5_last 13 = .ok (.iadd, 1) := by decide +kernel
theorem dX5_last_14 : decode cX5_last 14 = .ok (.invokespecial 17, 3) := by decide +kernel
theorem dX5_last_17 : decode cX5_last 17 = .ok (.ireturn, 1) := by decide +kernel
theorem dX5_tell_0 : decode cX5_tell 0 = .ok (.aload_n 1, 1) := by decide +kernel
theorem dX5_tell_1 : decode cX5_tell 1 = .ok (.bipush 51, 2) := by decide +kernel
theorem dX5_tell_3 : decode cX5_tell 3 = .ok (.invokevirtual 7, 3) := by decide +kernel
theorem dX5_tell_6 : decode cX5_tell 6 = .ok (.aload_n 0, 1) := by decide +kernel
theorem dX5_tell_7 : decode cX5_tell 7 = .ok (.aload_n 1, 1) := by decide +kernel
theorem dX5_tell_8 : decode cX5_tell 8 = .ok (.iload_n 2, 1) := by decide +kernel
theorem dX5_tell_9 : decode cX5_tell 9 = .ok (.invokevirtual 21, 3) := by decide +kernel
theorem dX5_tell_12 : decode cX5_tell 12 = .ok (.aload_n 0, 1) := by decide +kernel
theorem dX5_tell_13 : decode cX5_tell 13 = .ok (.aload_n 1, 1) := by decide +kernel
theorem dX5_tell_14 : decode cX5_tell 14 = .ok (.iload_n 2, 1) := by decide +kernel
theorem dX5_tell_15 : decode cX5_tell 15 = .ok (.invokespecial 26, 3) := by decide +kernel
theorem dX5_tell_18 : decode cX5_tell 18 = .ok (.imul, 1) := by decide +kernel
theorem dX5_tell_19 : decode cX5_tell 19 = .ok (.ireturn, 1) := by decide +kernel
theorem dX6_init_0 : decode cX6_init 0 = .ok (.aload_n 0, 1) := by decide +kernel
theorem dX6_init_1 : decode cX6_init 1 = .ok (.invokespecial 3, 3) := by decide +kernel
theorem dX6_init_4 : decode cX6_init 4 = .ok (.aload_n 0, 1) := by decide +kernel
theorem dX6_init_5 : decode cX6_init 5 = .ok (.bipush 12, 2) := by decide +kernel
theorem dX6_init_7 : decode cX6_init 7 = .ok (.newarray .int, 2) := by decide +kernel
theorem dX6_init_9 : decode cX6_init 9 = .ok (.putfield 9, 3) := by decide +kernel
theorem dX6_init_12 : decode cX6_init 12 = .ok (.return_, 1) := by decide +kernel
theorem dX6_size_0 : decode cX6_size 0 = .ok (.aload_n 0, 1) := by decide +kernel
theorem dX6_size_1 : decode cX6_size 1 = .ok (.getfield 15, 3) := by decide +kernel
theorem dX6_size_4 : decode cX6_size 4 = .ok (.ireturn, 1) := by decide +kernel
theorem dX6_jobAt_0 : decode cX6_jobAt 0 = .ok (.aload_n 0, 1) := by decide +kernel
theorem dX6_jobAt_1 : decode cX6_jobAt 1 = .ok (.getfield 9, 3) := by decide +kernel
theorem dX6_jobAt_4 : decode cX6_jobAt 4 = .ok (.iload_n 1, 1) := by decide +kernel
theorem dX6_jobAt_5 : decode cX6_jobAt 5 = .ok (.iaload, 1) := by decide +kernel
theorem dX6_jobAt_6 : decode cX6_jobAt 6 = .ok (.ireturn, 1) := by decide +kernel
theorem dX6_empty_0 : decode cX6_empty 0 = .ok (.aload_n 0, 1) := by decide +kernel
theorem dX6_empty_1 : decode cX6_empty 1 = .ok (.iconst 0, 1) := by decide +kernel
theorem dX6_empty_2 : decode cX6_empty 2 = .ok (.putfield 15, 3) := by decide +kernel
theorem dX6_empty_5 : decode cX6_empty 5 = .ok (.return_, 1) := by decide +kernel
theorem dX6_append_0 : decode cX6_append 0 = .ok (.aload_n 0, 1) := by decide +kernel
theorem dX6_append_1 : decode cX6_append 1 = .ok (.getfield 15, 3) := by decide +kernel
theorem dX6_append_4 : decode cX6_append 4 = .ok (.bipush 12, 2) := by decide +kernel
theorem dX6_append_6 : decode cX6_append 6 = .ok (.if_icmp .ge 23, 3) := by decide +kernel
theorem dX6_append_9 : decode cX6_append 9 = .ok (.aload_n 0, 1) := by decide +kernel
theorem dX6_append_10 : decode cX6_append 10 = .ok (.getfield 9, 3) := by decide +kernel
theorem dX6_append_13 : decode cX6_append 13 = .ok (.aload_n 0, 1) := by decide +kernel
theorem dX6_append_14 : decode cX6_append 14 = .ok (.getfield 15, 3) := by decide +kernel
theorem dX6_append_17 : decode cX6_append 17 = .ok (.iload_n 1, 1) := by decide +kernel
theorem dX6_append_18 : decode cX6_append 18 = .ok (.iastore, 1) := by decide +kernel
theorem dX6_append_19 : decode cX6_append 19 = .ok (.aload_n 0, 1) := by decide +kernel
theorem dX6_append_20 : decode cX6_append 20 = .ok (.dup, 1) := by decide +kernel
theorem dX6_append_21 : decode cX6_append 21 = .ok (.getfield 15, 3) := by decide +kernel
theorem dX6_append_24 : decode cX6_append 24 = .ok (.iconst 1, 1) := by decide +kernel
theorem dX6_append_25 : decode cX6_append 25 = .ok (.iadd, 1) := by decide +kernel
theorem dX6_append_26 : decode cX6_append 26 = .ok (.putfield 15, 3) := by decide +kernel
theorem dX6_append_29 : decode cX6_append 29 = .ok (.return_, 1) := by decide +kernel
theorem dX6_exchange_0 : decode cX6_exchange 0 = .ok (.aload_n 0, 1) := by decide +kernel
theorem dX6_exchange_1 : decode cX6_exchange 1 = .ok (.getfield 9, 3) := by decide +kernel
theorem dX6_exchange_4 : decode cX6_exchange 4 = .ok (.iload_n 1, 1) := by decide +kernel
theorem dX6_exchange_5 : decode cX6_exchange 5 = .ok (.iaload, 1) := by decide +kernel
theorem dX6_exchange_6 : decode cX6_exchange 6 = .ok (.istore_n 2, 1) := by decide +kernel
theorem dX6_exchange_7 : decode cX6_exchange 7 = .ok (.aload_n 0, 1) := by decide +kernel
theorem dX6_exchange_8 : decode cX6_exchange 8 = .ok (.getfield 9, 3) := by decide +kernel
theorem dX6_exchange_11 : decode cX6_exchange 11 = .ok (.iload_n 1, 1) := by decide +kernel
theorem dX6_exchange_12 : decode cX6_exchange 12 = .ok (.aload_n 0, 1) := by decide +kernel
theorem dX6_exchange_13 : decode cX6_exchange 13 = .ok (.getfield 9, 3) := by decide +kernel
theorem dX6_exchange_16 : decode cX6_exchange 16 = .ok (.iload_n 1, 1) := by decide +kernel
theorem dX6_exchange_17 : decode cX6_exchange 17 = .ok (.iconst 1, 1) := by decide +kernel
theorem dX6_exchange_18 : decode cX6_exchange 18 = .ok (.iadd, 1) := by decide +kernel
theorem dX6_exchange_19 : decode cX6_exchange 19 = .ok (.iaload, 1) := by decide +kernel
theorem dX6_exchange_20 : decode cX6_exchange 20 = .ok (.iastore, 1) := by decide +kernel
theorem dX6_exchange_21 : decode cX6_exchange 21 = .ok (.aload_n 0, 1) := by decide +kernel
theorem dX6_exchange_22 : decode cX6_exchange 22 = .ok (.getfield 9, 3) := by decide +kernel
theorem dX6_exchange_25 : decode cX6_exchange 25 = .ok (.iload_n 1, 1) := by decide +kernel
theorem dX6_exchange_26 : decode cX6_exchange 26 = .ok (.iconst 1, 1) := by decide +kernel
theorem dX6_exchange_27 : decode cX6_exchange 27 = .ok (.iadd, 1) := by decide +kernel
theorem dX6_exchange_28 : decode cX6_exchange 28 = .ok (.iload_n 2, 1) := by decide +kernel
theorem dX6_exchange_29 : decode cX6_exchange 29 = .ok (.iastore, 1) := by decide +kernel
theorem dX6_exchange_30 : decode cX6_exchange 30 = .ok (.return_, 1) := by decide +kernel
theorem dX6_placeOf_0 : decode cX6_placeOf 0 = .ok (.iconst 0, 1) := by decide +kernel
theorem dX6_placeOf_1 : decode cX6_placeOf 1 = .ok (.istore_n 2, 1) := by decide +kernel
theorem dX6_placeOf_2 : decode cX6_placeOf 2 = .ok (.iload_n 2, 1) := by decide +kernel
theorem dX6_placeOf_3 : decode cX6_placeOf 3 = .ok (.aload_n 0, 1) := by decide +kernel
theorem dX6_placeOf_4 : decode cX6_placeOf 4 = .ok (.getfield 15, 3) := by decide +kernel
theorem dX6_placeOf_7 : decode cX6_placeOf 7 = .ok (.if_icmp .ge 21, 3) := by decide +kernel
theorem dX6_placeOf_10 : decode cX6_placeOf 10 = .ok (.aload_n 0, 1) := by decide +kernel
theorem dX6_placeOf_11 : decode cX6_placeOf 11 = .ok (.getfield 9, 3) := by decide +kernel
theorem dX6_placeOf_14 : decode cX6_placeOf 14 = .ok (.iload_n 2, 1) := by decide +kernel
theorem dX6_placeOf_15 : decode cX6_placeOf 15 = .ok (.iaload, 1) := by decide +kernel
theorem dX6_placeOf_16 : decode cX6_placeOf 16 = .ok (.iload_n 1, 1) := by decide +kernel
theorem dX6_placeOf_17 : decode cX6_placeOf 17 = .ok (.if_icmp .ne 5, 3) := by decide +kernel
theorem dX6_placeOf_20 : decode cX6_placeOf 20 = .ok (.iload_n 2, 1) := by decide +kernel
theorem dX6_placeOf_21 : decode cX6_placeOf 21 = .ok (.ireturn, 1) := by decide +kernel
theorem dX6_placeOf_22 : decode cX6_placeOf 22 = .ok (.iinc 2 1, 3) := by decide +kernel
theorem dX6_placeOf_25 : decode cX6_placeOf 25 = .ok (.goto (-23), 3) := by decide +kernel
theorem dX6_placeOf_28 : decode cX6_placeOf 28 = .ok (.iconst (-1), 1) := by decide +kernel
theorem dX6_placeOf_29 : decode cX6_placeOf 29 = .ok (.ireturn, 1) := by decide +kernel
theorem dX6_bitsBefore_0 : decode cX6_bitsBefore 0 = .ok (.iconst 0, 1) := by decide +kernel
theorem dX6_bitsBefore_1 : decode cX6_bitsBefore 1 = .ok (.istore_n 2, 1) := by decide +kernel
theorem dX6_bitsBefore_2 : decode cX6_bitsBefore 2 = .ok (.iconst 0, 1) := by decide +kernel
theorem dX6_bitsBefore_3 : decode cX6_bitsBefore 3 = .ok (.istore_n 3, 1) := by decide +kernel
theorem dX6_bitsBefore_4 : decode cX6_bitsBefore 4 = .ok (.iload_n 3, 1) := by decide +kernel
theorem dX6_bitsBefore_5 : decode cX6_bitsBefore 5 = .ok (.iload_n 1, 1) := by decide +kernel
theorem dX6_bitsBefore_6 : decode cX6_bitsBefore 6 = .ok (.if_icmp .ge 20, 3) := by decide +kernel
theorem dX6_bitsBefore_9 : decode cX6_bitsBefore 9 = .ok (.iload_n 2, 1) := by decide +kernel
theorem dX6_bitsBefore_10 : decode cX6_bitsBefore 10 = .ok (.iconst 1, 1) := by decide +kernel
theorem dX6_bitsBefore_11 : decode cX6_bitsBefore 11 = .ok (.aload_n 0, 1) := by decide +kernel
theorem dX6_bitsBefore_12 : decode cX6_bitsBefore 12 = .ok (.getfield 9, 3) := by decide +kernel
theorem dX6_bitsBefore_15 : decode cX6_bitsBefore 15 = .ok (.iload_n 3, 1) := by decide +kernel
theorem dX6_bitsBefore_16 : decode cX6_bitsBefore 16 = .ok (.iaload, 1) := by decide +kernel
theorem dX6_bitsBefore_17 : decode cX6_bitsBefore 17 = .ok (.ishl, 1) := by decide +kernel
theorem dX6_bitsBefore_18 : decode cX6_bitsBefore 18 = .ok (.ior, 1) := by decide +kernel
theorem dX6_bitsBefore_19 : decode cX6_bitsBefore 19 = .ok (.istore_n 2, 1) := by decide +kernel
theorem dX6_bitsBefore_20 : decode cX6_bitsBefore 20 = .ok (.iinc 3 1, 3) := by decide +kernel
theorem dX6_bitsBefore_23 : decode cX6_bitsBefore 23 = .ok (.goto (-19), 3) := by decide +kernel
theorem dX6_bitsBefore_26 : decode cX6_bitsBefore 26 = .ok (.iload_n 2, 1) := by decide +kernel
theorem dX6_bitsBefore_27 : decode cX6_bitsBefore 27 = .ok (.ireturn, 1) := by decide +kernel
theorem dX6_lackingAt_0 : decode cX6_lackingAt 0 = .ok (.aload_n 1, 1) := by decide +kernel
theorem dX6_lackingAt_1 : decode cX6_lackingAt 1 = .ok (.aload_n 0, 1) := by decide +kernel
theorem dX6_lackingAt_2 : decode cX6_lackingAt 2 = .ok (.getfield 9, 3) := by decide +kernel
theorem dX6_lackingAt_5 : decode cX6_lackingAt 5 = .ok (.iload_n 2, 1) := by decide +kernel
theorem dX6_lackingAt_6 : decode cX6_lackingAt 6 = .ok (.iaload, 1) := by decide +kernel
theorem dX6_lackingAt_7 : decode cX6_lackingAt 7 = .ok (.invokevirtual 19, 3) := by decide +kernel
theorem dX6_lackingAt_10 : decode cX6_lackingAt 10 = .ok (.aload_n 0, 1) := by decide +kernel
theorem dX6_lackingAt_11 : decode cX6_lackingAt 11 = .ok (.iload_n 2, 1) := by decide +kernel
theorem dX6_lackingAt_12 : decode cX6_lackingAt 12 = .ok (.invokevirtual 25, 3) := by decide +kernel
theorem dX6_lackingAt_15 : decode cX6_lackingAt 15 = .ok (.iconst (-1), 1) := by decide +kernel
theorem dX6_lackingAt_16 : decode cX6_lackingAt 16 = .ok (.ixor, 1) := by decide +kernel
theorem dX6_lackingAt_17 : decode cX6_lackingAt 17 = .ok (.iand, 1) := by decide +kernel
theorem dX6_lackingAt_18 : decode cX6_lackingAt 18 = .ok (.ireturn, 1) := by decide +kernel
theorem dX6_firstLacking_0 : decode cX6_firstLacking 0 = .ok (.iconst 0, 1) := by decide +kernel
theorem dX6_firstLacking_1 : decode cX6_firstLacking 1 = .ok (.istore_n 2, 1) := by decide +kernel
theorem dX6_firstLacking_2 : decode cX6_firstLacking 2 = .ok (.iload_n 2, 1) := by decide +kernel
theorem dX6_firstLacking_3 : decode cX6_firstLacking 3 = .ok (.aload_n 0, 1) := by decide +kernel
theorem dX6_firstLacking_4 : decode cX6_firstLacking 4 = .ok (.getfield 15, 3) := by decide +kernel
theorem dX6_firstLacking_7 : decode cX6_firstLacking 7 = .ok (.if_icmp .ge 20, 3) := by decide +kernel
theorem dX6_firstLacking_10 : decode cX6_firstLacking 10 = .ok (.aload_n 0, 1) := by decide +kernel
theorem dX6_firstLacking_11 : decode cX6_firstLacking 11 = .ok (.aload_n 1, 1) := by decide +kernel
theorem dX6_firstLacking_12 : decode cX6_firstLacking 12 = .ok (.iload_n 2, 1) := by decide +kernel
theorem dX6_firstLacking_13 : decode cX6_firstLacking 13 = .ok (.invokevirtual 28, 3) := by decide +kernel
theorem dX6_firstLacking_16 : decode cX6_firstLacking 16 = .ok (.ifCond .eq 5, 3) := by decide +kernel
theorem dX6_firstLacking_19 : decode cX6_firstLacking 19 = .ok (.iload_n 2, 1) := by decide +kernel
theorem dX6_firstLacking_20 : decode cX6_firstLacking 20 = .ok (.ireturn, 1) := by decide +kernel
theorem dX6_firstLacking_21 : decode cX6_firstLacking 21 = .ok (.iinc 2 1, 3) := by decide +kernel
theorem dX6_firstLacking_24 : decode cX6_firstLacking 24 = .ok (.goto (-22), 3) := by decide +kernel
theorem dX6_firstLacking_27 : decode cX6_firstLacking 27 = .ok (.iconst (-1), 1) := by decide +kernel
theorem dX6_firstLacking_28 : decode cX6_firstLacking 28 = .ok (.ireturn, 1) := by decide +kernel
theorem dX6_isKept_0 : decode cX6_isKept 0 = .ok (.aload_n 0, 1) := by decide +kernel
theorem dX6_isKept_1 : decode cX6_isKept 1 = .ok (.getfield 15, 3) := by decide +kernel
theorem dX6_isKept_4 : decode cX6_isKept 4 = .ok (.aload_n 1, 1) := by decide +kernel
theorem dX6_isKept_5 : decode cX6_isKept 5 = .ok (.invokevirtual 32, 3) := by decide +kernel
theorem dX6_isKept_8 : decode cX6_isKept 8 = .ok (.if_icmp .ne 16, 3) := by decide +kernel
theorem dX6_isKept_11 : decode cX6_isKept 11 = .ok (.aload_n 0, 1) := by decide +kernel
theorem dX6_isKept_12 : decode cX6_isKept 12 = .ok (.aload_n 1, 1) := by decide +kernel
theorem dX6_isKept_13 : decode cX6_isKept 13 = .ok (.invokevirtual 36, 3) := by decide +kernel
theorem dX6_isKept_16 : decode cX6_isKept 16 = .ok (.iconst (-1), 1) := by decide +kernel
theorem dX6_isKept_17 : decode cX6_isKept 17 = .ok (.if_icmp .ne 7, 3) := by decide +kernel
theorem dX6_isKept_20 : decode cX6_isKept 20 = .ok (.iconst 1, 1) := by decide +kernel
theorem dX6_isKept_21 : decode cX6_isKept 21 = .ok (.goto 4, 3) := by decide +kernel
theorem dX6_isKept_24 : decode cX6_isKept 24 = .ok (.iconst 0, 1) := by decide +kernel
theorem dX6_isKept_25 : decode cX6_isKept 25 = .ok (.ireturn, 1) := by decide +kernel
theorem dX6_weightedWaiting_0 : decode cX6_weightedWaiting 0 = .ok (.iconst 0, 1) := by decide +kernel
theorem dX6_weightedWaiting_1 : decode cX6_weightedWaiting 1 = .ok (.istore_n 2, 1) := by decide +kernel
theorem dX6_weightedWaiting_2 : decode cX6_weightedWaiting 2 = .ok (.iconst 0, 1) := by decide +kernel
theorem dX6_weightedWaiting_3 : decode cX6_weightedWaiting 3 = .ok (.istore_n 3, 1) := by decide +kernel
theorem dX6_weightedWaiting_4 : decode cX6_weightedWaiting 4 = .ok (.iconst 0, 1) := by decide +kernel
theorem dX6_weightedWaiting_5 : decode cX6_weightedWaiting 5 = .ok (.istore 4, 2) := by decide +kernel
theorem dX6_weightedWaiting_7 : decode cX6_weightedWaiting 7 = .ok (.iload 4, 2) := by decide +kernel
theorem dX6_weightedWaiting_9 : decode cX6_weightedWaiting 9 = .ok (.aload_n 0, 1) := by decide +kernel
theorem dX6_weightedWaiting_10 : decode cX6_weightedWaiting 10 = .ok (.getfield 15, 3) := by decide +kernel
theorem dX6_weightedWaiting_13 : decode cX6_weightedWaiting 13 = .ok (.if_icmp .ge 50, 3) := by decide +kernel
theorem dX6_weightedWaiting_16 : decode cX6_weightedWaiting 16 = .ok (.aload_n 0, 1) := by decide +kernel
theorem dX6_weightedWaiting_17 : decode cX6_weightedWaiting 17 = .ok (.getfield 9, 3) := by decide +kernel
theorem dX6_weightedWaiting_20 : decode cX6_weightedWaiting 20 = .ok (.iload 4, 2) := by decide +kernel
theorem dX6_weightedWaiting_22 : decode cX6_weightedWaiting 22 = .ok (.iaload, 1) := by decide +kernel
theorem dX6_weightedWaiting_23 : decode cX6_weightedWaiting 23 = .ok (.istore 5, 2) := by decide +kernel
theorem dX6_weightedWaiting_25 : decode cX6_weightedWaiting 25 = .ok (.iload_n 2, 1) := by decide +kernel
theorem dX6_weightedWaiting_26 : decode cX6_weightedWaiting 26 = .ok (.aload_n 1, 1) := by decide +kernel
theorem dX6_weightedWaiting_27 : decode cX6_weightedWaiting 27 = .ok (.iload 5, 2) := by decide +kernel
theorem dX6_weightedWaiting_29 : decode cX6_weightedWaiting 29 = .ok (.iconst 2, 1) := by decide +kernel
theorem dX6_weightedWaiting_30 : decode cX6_weightedWaiting 30 = .ok (.invokevirtual 40, 3) := by decide +kernel
theorem dX6_weightedWaiting_33 : decode cX6_weightedWaiting 33 = .ok (.invokestatic 44, 3) := by decide +kernel
theorem dX6_weightedWaiting_36 : decode cX6_weightedWaiting 36 = .ok (.aload_n 1, 1) := by decide +kernel
theorem dX6_weightedWaiting_37 : decode cX6_weightedWaiting 37 = .ok (.iload 5, 2) := by decide +kernel
theorem dX6_weightedWaiting_39 : decode cX6_weightedWaiting 39 = .ok (.iconst 0, 1) := by decide +kernel
theorem dX6_weightedWaiting_40 : decode cX6_weightedWaiting 40 = .ok (.invokevirtual 40, 3) := by decide +kernel
theorem dX6_weightedWaiting_43 : decode cX6_weightedWaiting 43 = .ok (.iadd, 1) := by decide +kernel
theorem dX6_weightedWaiting_44 : decode cX6_weightedWaiting 44 = .ok (.istore_n 2, 1) := by decide +kernel
theorem dX6_weightedWaiting_45 : decode cX6_weightedWaiting 45 = .ok (.iload_n 3, 1) := by decide +kernel
theorem dX6_weightedWaiting_46 : decode cX6_weightedWaiting 46 = .ok (.aload_n 1, 1) := by decide +kernel
theorem dX6_weightedWaiting_47 : decode cX6_weightedWaiting 47 = .ok (.iload 5, 2) := by decide +kernel
theorem dX6_weightedWaiting_49 : decode cX6_weightedWaiting 49 = .ok (.iconst 1, 1) := by decide +kernel
theorem dX6_weightedWaiting_50 : decode cX6_weightedWaiting 50 = .ok (.invokevirtual 40, 3) := by decide +kernel
theorem dX6_weightedWaiting_53 : decode cX6_weightedWaiting 53 = .ok (.iload_n 2, 1) := by decide +kernel
theorem dX6_weightedWaiting_54 : decode cX6_weightedWaiting 54 = .ok (.imul, 1) := by decide +kernel
theorem dX6_weightedWaiting_55 : decode cX6_weightedWaiting 55 = .ok (.iadd, 1) := by decide +kernel
theorem dX6_weightedWaiting_56 : decode cX6_weightedWaiting 56 = .ok (.istore_n 3, 1) := by decide +kernel
theorem dX6_weightedWaiting_57 : decode cX6_weightedWaiting 57 = .ok (.iinc 4 1, 3) := by decide +kernel
theorem dX6_weightedWaiting_60 : decode cX6_weightedWaiting 60 = .ok (.goto (-53), 3) := by decide +kernel
theorem dX6_weightedWaiting_63 : decode cX6_weightedWaiting 63 = .ok (.iload_n 3, 1) := by decide +kernel
theorem dX6_weightedWaiting_64 : decode cX6_weightedWaiting 64 = .ok (.ireturn, 1) := by decide +kernel
theorem dX7_init_0 : decode cX7_init 0 = .ok (.aload_n 0, 1) := by decide +kernel
theorem dX7_init_1 : decode cX7_init 1 = .ok (.invokespecial 3, 3) := by decide +kernel
theorem dX7_init_4 : decode cX7_init 4 = .ok (.aload_n 0, 1) := by decide +kernel
theorem dX7_init_5 : decode cX7_init 5 = .ok (.bipush 12, 2) := by decide +kernel
theorem dX7_init_7 : decode cX7_init 7 = .ok (.newarray .int, 2) := by decide +kernel
theorem dX7_init_9 : decode cX7_init 9 = .ok (.putfield 9, 3) := by decide +kernel
theorem dX7_init_12 : decode cX7_init 12 = .ok (.aload_n 0, 1) := by decide +kernel
theorem dX7_init_13 : decode cX7_init 13 = .ok (.iconst (-1), 1) := by decide +kernel
theorem dX7_init_14 : decode cX7_init 14 = .ok (.putfield 15, 3) := by decide +kernel
theorem dX7_init_17 : decode cX7_init 17 = .ok (.aload_n 0, 1) := by decide +kernel
theorem dX7_init_18 : decode cX7_init 18 = .ok (.sipush 4096, 3) := by decide +kernel
theorem dX7_init_21 : decode cX7_init 21 = .ok (.newarray .int, 2) := by decide +kernel
theorem dX7_init_23 : decode cX7_init 23 = .ok (.putfield 19, 3) := by decide +kernel
theorem dX7_init_26 : decode cX7_init 26 = .ok (.aload_n 0, 1) := by decide +kernel
theorem dX7_init_27 : decode cX7_init 27 = .ok (.sipush 4096, 3) := by decide +kernel
theorem dX7_init_30 : decode cX7_init 30 = .ok (.newarray .int, 2) := by decide +kernel
theorem dX7_init_32 : decode cX7_init 32 = .ok (.putfield 22, 3) := by decide +kernel
theorem dX7_init_35 : decode cX7_init 35 = .ok (.aload_n 0, 1) := by decide +kernel
theorem dX7_init_36 : decode cX7_init 36 = .ok (.bipush 12, 2) := by decide +kernel
theorem dX7_init_38 : decode cX7_init 38 = .ok (.newarray .int, 2) := by decide +kernel
theorem dX7_init_40 : decode cX7_init 40 = .ok (.putfield 25, 3) := by decide +kernel
theorem dX7_init_43 : decode cX7_init 43 = .ok (.aload_n 0, 1) := by decide +kernel
theorem dX7_init_44 : decode cX7_init 44 = .ok (.iconst (-1), 1) := by decide +kernel
theorem dX7_init_45 : decode cX7_init 45 = .ok (.putfield 28, 3) := by decide +kernel
theorem dX7_init_48 : decode cX7_init 48 = .ok (.aload_n 0, 1) := by decide +kernel
theorem dX7_init_49 : decode cX7_init 49 = .ok (.bipush 12, 2) := by decide +kernel
theorem dX7_init_51 : decode cX7_init 51 = .ok (.newarray .int, 2) := by decide +kernel
theorem dX7_init_53 : decode cX7_init 53 = .ok (.putfield 31, 3) := by decide +kernel
theorem dX7_init_56 : decode cX7_init 56 = .ok (.aload_n 0, 1) := by decide +kernel
theorem dX7_init_57 : decode cX7_init 57 = .ok (.iconst (-1), 1) := by decide +kernel
theorem dX7_init_58 : decode cX7_init 58 = .ok (.putfield 34, 3) := by decide +kernel
theorem dX7_init_61 : decode cX7_init 61 = .ok (.return_, 1) := by decide +kernel
theorem dX7_blocks_0 : decode cX7_blocks 0 = .ok (.aload_n 0, 1) := by decide +kernel
theorem dX7_blocks_1 : decode cX7_blocks 1 = .ok (.getfield 15, 3) := by decide +kernel
theorem dX7_blocks_4 : decode cX7_blocks 4 = .ok (.aload_n 1, 1) := by decide +kernel
theorem dX7_blocks_5 : decode cX7_blocks 5 = .ok (.invokevirtual 37, 3) := by decide +kernel
theorem dX7_blocks_8 : decode cX7_blocks 8 = .ok (.if_icmp .eq 16, 3) := by decide +kernel
theorem dX7_blocks_11 : decode cX7_blocks 11 = .ok (.aload_n 0, 1) := by decide +kernel
theorem dX7_blocks_12 : decode cX7_blocks 12 = .ok (.aload_n 1, 1) := by decide +kernel
theorem dX7_blocks_13 : decode cX7_blocks 13 = .ok (.invokevirtual 43, 3) := by decide +kernel
theorem dX7_blocks_16 : decode cX7_blocks 16 = .ok (.aload_n 0, 1) := by decide +kernel
theorem dX7_blocks_17 : decode cX7_blocks 17 = .ok (.aload_n 1, 1) := by decide +kernel
theorem dX7_blocks_18 : decode cX7_blocks 18 = .ok (.invokevirtual 37, 3) := by decide +kernel
theorem dX7_blocks_21 : decode cX7_blocks 21 = .ok (.putfield 15, 3) := by decide +kernel
theorem dX7_blocks_24 : decode cX7_blocks 24 = .ok (.aload_n 0, 1) := by decide +kernel
theorem dX7_blocks_25 : decode cX7_blocks 25 = .ok (.getfield 47, 3) := by decide +kernel
theorem dX7_blocks_28 : decode cX7_blocks 28 = .ok (.ireturn, 1) := by decide +kernel
theorem dX7_blockBits_0 : decode cX7_blockBits 0 = .ok (.aload_n 0, 1) := by decide +kernel
theorem dX7_blockBits_1 : decode cX7_blockBits 1 = .ok (.getfield 9, 3) := by decide +kernel
theorem dX7_blockBits_4 : decode cX7_blockBits 4 = .ok (.iload_n 1, 1) := by decide +kernel
theorem dX7_blockBits_5 : decode cX7_blockBits 5 = .ok (.iaload, 1) := by decide +kernel
theorem dX7_blockBits_6 : decode cX7_blockBits 6 = .ok (.ireturn, 1) := by decide +kernel
theorem dX7_blockOf_0 : decode cX7_blockOf 0 = .ok (.aload_n 0, 1) := by decide +kernel
theorem dX7_blockOf_1 : decode cX7_blockOf 1 = .ok (.aload_n 1, 1) := by decide +kernel
theorem dX7_blockOf_2 : decode cX7_blockOf 2 = .ok (.invokevirtual 50, 3) := by decide +kernel
theorem dX7_blockOf_5 : decode cX7_blockOf 5 = .ok (.istore_n 3, 1) := by decide +kernel
theorem dX7_blockOf_6 : decode cX7_blockOf 6 = .ok (.iconst 0, 1) := by decide +kernel
theorem dX7_blockOf_7 : decode cX7_blockOf 7 = .ok (.istore 4, 2) := by decide +kernel
theorem dX7_blockOf_9 : decode cX7_blockOf 9 = .ok (.iload 4, 2) := by decide +kernel
theorem dX7_blockOf_11 : decode cX7_blockOf 11 = .ok (.iload_n 3, 1) := by decide +kernel
theorem dX7_blockOf_12 : decode cX7_blockOf 12 = .ok (.if_icmp .ge 26, 3) := by decide +kernel
theorem dX7_blockOf_15 : decode cX7_blockOf 15 = .ok (.aload_n 0, 1) := by decide +kernel
theorem dX7_blockOf_16 : decode cX7_blockOf 16 = .ok (.getfield 9, 3) := by decide +kernel
theorem dX7_blockOf_19 : decode cX7_blockOf 19 = .ok (.iload 4, 2) := by decide +kernel
theorem dX7_blockOf_21 : decode cX7_blockOf 21 = .ok (.iaload, 1) := by decide +kernel
theorem dX7_blockOf_22 : decode cX7_blockOf 22 = .ok (.iload_n 2, 1) := by decide +kernel
theorem dX7_blockOf_23 : decode cX7_blockOf 23 = .ok (.invokestatic 53, 3) := by decide +kernel
theorem dX7_blockOf_26 : decode cX7_blockOf 26 = .ok (.ifCond .eq 6, 3) := by decide +kernel
theorem dX7_blockOf_29 : decode cX7_blockOf 29 = .ok (.iload 4, 2) := by decide +kernel
theorem dX7_blockOf_31 : decode cX7_blockOf 31 = .ok (.ireturn, 1) := by decide +kernel
theorem dX7_blockOf_32 : decode cX7_blockOf 32 = .ok (.iinc 4 1, 3) := by decide +kernel
theorem dX7_blockOf_35 : decode cX7_blockOf 35 = .ok (.goto (-26), 3) := by decide +kernel
theorem dX7_blockOf_38 : decode cX7_blockOf 38 = .ok (.iconst (-1), 1) := by decide +kernel
theorem dX7_blockOf_39 : decode cX7_blockOf 39 = .ok (.ireturn, 1) := by decide +kernel
theorem dX7_leastCost_0 : decode cX7_leastCost 0 = .ok (.aload_n 0, 1) := by decide +kernel
theorem dX7_leastCost_1 : decode cX7_leastCost 1 = .ok (.aload_n 1, 1) := by decide +kernel
theorem dX7_leastCost_2 : decode cX7_leastCost 2 = .ok (.invokevirtual 57, 3) := by decide +kernel
theorem dX7_leastCost_5 : decode cX7_leastCost 5 = .ok (.aload_n 0, 1) := by decide +kernel
theorem dX7_leastCost_6 : decode cX7_leastCost 6 = .ok (.getfield 19, 3) := by decide +kernel
theorem dX7_leastCost_9 : decode cX7_leastCost 9 = .ok (.iconst 0, 1) := by decide +kernel
theorem dX7_leastCost_10 : decode cX7_leastCost 10 = .ok (.iaload, 1) := by decide +kernel
theorem dX7_leastCost_11 : decode cX7_leastCost 11 = .ok (.ireturn, 1) := by decide +kernel
theorem dX7_bestOrders_0 : decode cX7_bestOrders 0 = .ok (.aload_n 0, 1) := by decide +kernel
theorem dX7_bestOrders_1 : decode cX7_bestOrders 1 = .ok (.aload_n 1, 1) := by decide +kernel
theorem dX7_bestOrders_2 : decode cX7_bestOrders 2 = .ok (.invokevirtual 57, 3) := by decide +kernel
theorem dX7_bestOrders_5 : decode cX7_bestOrders 5 = .ok (.aload_n 0, 1) := by decide +kernel
theorem dX7_bestOrders_6 : decode cX7_bestOrders 6 = .ok (.getfield 22, 3) := by decide +kernel
theorem dX7_bestOrders_9 : decode cX7_bestOrders 9 = .ok (.iconst 0, 1) := by decide +kernel
theorem dX7_bestOrders_10 : decode cX7_bestOrders 10 = .ok (.iaload, 1) := by decide +kernel
theorem dX7_bestOrders_11 : decode cX7_bestOrders 11 = .ok (.ireturn, 1) := by decide +kernel
theorem dX7_bestAt_0 : decode cX7_bestAt 0 = .ok (.aload_n 0, 1) := by decide +kernel
theorem dX7_bestAt_1 : decode cX7_bestAt 1 = .ok (.aload_n 1, 1) := by decide +kernel
theorem dX7_bestAt_2 : decode cX7_bestAt 2 = .ok (.invokevirtual 57, 3) := by decide +kernel
theorem dX7_bestAt_5 : decode cX7_bestAt 5 = .ok (.aload_n 0, 1) := by decide +kernel
theorem dX7_bestAt_6 : decode cX7_bestAt 6 = .ok (.getfield 25, 3) := by decide +kernel
theorem dX7_bestAt_9 : decode cX7_bestAt 9 = .ok (.iload_n 2, 1) := by decide +kernel
theorem dX7_bestAt_10 : decode cX7_bestAt 10 = .ok (.iaload, 1) := by decide +kernel
theorem dX7_bestAt_11 : decode cX7_bestAt 11 = .ok (.ireturn, 1) := by decide +kernel
theorem dX7_mayStandAhead_0 : decode cX7_mayStandAhead 0 = .ok (.aload_n 0, 1) := by decide +kernel
theorem dX7_mayStandAhead_1 : decode cX7_mayStandAhead 1 = .ok (.aload_n 1, 1) := by decide +kernel
theorem dX7_mayStandAhead_2 : decode cX7_mayStandAhead 2 = .ok (.invokevirtual 57, 3) := by decide +kernel
theorem dX7_mayStandAhead_5 : decode cX7_mayStandAhead 5 = .ok (.aload_n 0, 1) := by decide +kernel
theorem dX7_mayStandAhead_6 : decode cX7_mayStandAhead 6 = .ok (.getfield 34, 3) := by decide +kernel
theorem dX7_mayStandAhead_9 : decode cX7_mayStandAhead 9 = .ok (.aload_n 1, 1) := by decide +kernel
theorem dX7_mayStandAhead_10 : decode cX7_mayStandAhead 10 = .ok (.invokevirtual 37, 3) := by decide +kernel
theorem dX7_mayStandAhead_13 : decode cX7_mayStandAhead 13 = .ok (.if_icmp .eq 16, 3) := by decide +kernel
theorem dX7_mayStandAhead_16 : decode cX7_mayStandAhead 16 = .ok (.aload_n 0, 1) := by decide +kernel
theorem dX7_mayStandAhead_17 : decode cX7_mayStandAhead 17 = .ok (.aload_n 1, 1) := by decide +kernel
theorem dX7_mayStandAhead_18 : decode cX7_mayStandAhead 18 = .ok (.invokevirtual 60, 3) := by decide +kernel
theorem dX7_mayStandAhead_21 : decode cX7_mayStandAhead 21 = .ok (.aload_n 0, 1) := by decide +kernel
theorem dX7_mayStandAhead_22 : decode cX7_mayStandAhead 22 = .ok (.aload_n 1, 1) := by decide +kernel
theorem dX7_mayStandAhead_23 : decode cX7_mayStandAhead 23 = .ok (.invokevirtual 37, 3) := by decide +kernel
theorem dX7_mayStandAhead_26 : decode cX7_mayStandAhead 26 = .ok (.putfield 34, 3) := by decide +kernel
theorem dX7_mayStandAhead_29 : decode cX7_mayStandAhead 29 = .ok (.aload_n 0, 1) := by decide +kernel
theorem dX7_mayStandAhead_30 : decode cX7_mayStandAhead 30 = .ok (.getfield 31, 3) := by decide +kernel
theorem dX7_mayStandAhead_33 : decode cX7_mayStandAhead 33 = .ok (.iload_n 2, 1) := by decide +kernel
theorem dX7_mayStandAhead_34 : decode cX7_mayStandAhead 34 = .ok (.iaload, 1) := by decide +kernel
theorem dX7_mayStandAhead_35 : decode cX7_mayStandAhead 35 = .ok (.iload_n 3, 1) := by decide +kernel
theorem dX7_mayStandAhead_36 : decode cX7_mayStandAhead 36 = .ok (.invokestatic 53, 3) := by decide +kernel
theorem dX7_mayStandAhead_39 : decode cX7_mayStandAhead 39 = .ok (.ireturn, 1) := by decide +kernel
theorem dX7_findBlocks_0 : decode cX7_findBlocks 0 = .ok (.iconst 0, 1) := by decide +kernel
theorem dX7_findBlocks_1 : decode cX7_findBlocks 1 = .ok (.istore_n 2, 1) := by decide +kernel
theorem dX7_findBlocks_2 : decode cX7_findBlocks 2 = .ok (.aload_n 0, 1) := by decide +kernel
theorem dX7_findBlocks_3 : decode cX7_findBlocks 3 = .ok (.iconst 0, 1) := by decide +kernel
theorem dX7_findBlocks_4 : decode cX7_findBlocks 4 = .ok (.putfield 47, 3) := by decide +kernel
theorem dX7_findBlocks_7 : decode cX7_findBlocks 7 = .ok (.iconst 0, 1) := by decide +kernel
theorem dX7_findBlocks_8 : decode cX7_findBlocks 8 = .ok (.istore_n 3, 1) := by decide +kernel
theorem dX7_findBlocks_9 : decode cX7_findBlocks 9 = .ok (.iload_n 3, 1) := by decide +kernel
theorem dX7_findBlocks_10 : decode cX7_findBlocks 10 = .ok (.bipush 12, 2) := by decide +kernel
theorem dX7_findBlocks_12 : decode cX7_findBlocks 12 = .ok (.if_icmp .ge 47, 3) := by decide +kernel
theorem dX7_findBlocks_15 : decode cX7_findBlocks 15 = .ok (.iload_n 2, 1) := by decide +kernel
theorem dX7_findBlocks_16 : decode cX7_findBlocks 16 = .ok (.aload_n 1, 1) := by decide +kernel
theorem dX7_findBlocks_17 : decode cX7_findBlocks 17 = .ok (.invokevirtual 63, 3) := by decide +kernel
theorem dX7_findBlocks_20 : decode cX7_findBlocks 20 = .ok (.if_icmp .eq 39, 3) := by decide +kernel
theorem dX7_findBlocks_23 : decode cX7_findBlocks 23 = .ok (.aload_n 0, 1) := by decide +kernel
theorem dX7_findBlocks_24 : decode cX7_findBlocks 24 = .ok (.getfield 9, 3) := by decide +kernel
theorem dX7_findBlocks_27 : decode cX7_findBlocks 27 = .ok (.iload_n 3, 1) := by decide +kernel
theorem dX7_findBlocks_28 : decode cX7_findBlocks 28 = .ok (.aload_n 1, 1) := by decide +kernel
theorem dX7_findBlocks_29 : decode cX7_findBlocks 29 = .ok (.iload_n 2, 1) := by decide +kernel
theorem dX7_findBlocks_30 : decode cX7_findBlocks 30 = .ok (.invokestatic 66, 3) := by decide +kernel
theorem dX7_findBlocks_33 : decode cX7_findBlocks 33 = .ok (.iastore, 1) := by decide +kernel
theorem dX7_findBlocks_34 : decode cX7_findBlocks 34 = .ok (.iload_n 2, 1) := by decide +kernel
theorem dX7_findBlocks_35 : decode cX7_findBlocks 35 = .ok (.aload_n 0, 1) := by decide +kernel
theorem dX7_findBlocks_36 : decode cX7_findBlocks 36 = .ok (.getfield 9, 3) := by decide +kernel
theorem dX7_findBlocks_39 : decode cX7_findBlocks 39 = .ok (.iload_n 3, 1) := by decide +kernel
theorem dX7_findBlocks_40 : decode cX7_findBlocks 40 = .ok (.iaload, 1) := by decide +kernel
theorem dX7_findBlocks_41 : decode cX7_findBlocks 41 = .ok (.ior, 1) := by decide +kernel
theorem dX7_findBlocks_42 : decode cX7_findBlocks 42 = .ok (.istore_n 2, 1) := by decide +kernel
theorem dX7_findBlocks_43 : decode cX7_findBlocks 43 = .ok (.aload_n 0, 1) := by decide +kernel
theorem dX7_findBlocks_44 : decode cX7_findBlocks 44 = .ok (.dup, 1) := by decide +kernel
theorem dX7_findBlocks_45 : decode cX7_findBlocks 45 = .ok (.getfield 47, 3) := by decide +kernel
theorem dX7_findBlocks_48 : decode cX7_findBlocks 48 = .ok (.iconst 1, 1) := by decide +kernel
theorem dX7_findBlocks_49 : decode cX7_findBlocks 49 = .ok (.iadd, 1) := by decide +kernel
theorem dX7_findBlocks_50 : decode cX7_findBlocks 50 = .ok (.putfield 47, 3) := by decide +kernel
theorem dX7_findBlocks_53 : decode cX7_findBlocks 53 = .ok (.iinc 3 1, 3) := by decide +kernel
theorem dX7_findBlocks_56 : decode cX7_findBlocks 56 = .ok (.goto (-47), 3) := by decide +kernel
theorem dX7_findBlocks_59 : decode cX7_findBlocks 59 = .ok (.return_, 1) := by decide +kernel
theorem dX7_findBlock_0 : decode cX7_findBlock 0 = .ok (.aload_n 0, 1) := by decide +kernel
theorem dX7_findBlock_1 : decode cX7_findBlock 1 = .ok (.invokevirtual 63, 3) := by decide +kernel
theorem dX7_findBlock_4 : decode cX7_findBlock 4 = .ok (.iload_n 1, 1) := by decide +kernel
theorem dX7_findBlock_5 : decode cX7_findBlock 5 = .ok (.iconst (-1), 1) := by decide +kernel
theorem dX7_findBlock_6 : decode cX7_findBlock 6 = .ok (.ixor, 1) := by decide +kernel
theorem dX7_findBlock_7 : decode cX7_findBlock 7 = .ok (.iand, 1) := by decide +kernel
theorem dX7_findBlock_8 : decode cX7_findBlock 8 = .ok (.istore_n 2, 1) := by decide +kernel
theorem dX7_findBlock_9 : decode cX7_findBlock 9 = .ok (.iload_n 2, 1) := by decide +kernel
theorem dX7_findBlock_10 : decode cX7_findBlock 10 = .ok (.istore_n 3, 1) := by decide +kernel
theorem dX7_findBlock_11 : decode cX7_findBlock 11 = .ok (.aload_n 0, 1) := by decide +kernel
theorem dX7_findBlock_12 : decode cX7_findBlock 12 = .ok (.iload_n 2, 1) := by decide +kernel
theorem dX7_findBlock_13 : decode cX7_findBlock 13 = .ok (.invokevirtual 70, 3) := by decide +kernel
theorem dX7_findBlock_16 : decode cX7_findBlock 16 = .ok (.istore 4, 2) := by decide +kernel
theorem dX7_findBlock_18 : decode cX7_findBlock 18 = .ok (.aload_n 0, 1) := by decide +kernel
theorem dX7_findBlock_19 : decode cX7_findBlock 19 = .ok (.iload_n 2, 1) := by decide +kernel
theorem dX7_findBlock_20 : decode cX7_findBlock 20 = .ok (.invokevirtual 74, 3) := by decide +kernel
theorem dX7_findBlock_23 : decode cX7_findBlock 23 = .ok (.istore 5, 2) := by decide +kernel
theorem dX7_findBlock_25 : decode cX7_findBlock 25 = .ok (.iload_n 2, 1) := by decide +kernel
theorem dX7_findBlock_26 : decode cX7_findBlock 26 = .ok (.istore 6, 2) := by decide +kernel
theorem dX7_findBlock_28 : decode cX7_findBlock 28 = .ok (.iload 6, 2) := by decide +kernel
theorem dX7_findBlock_30 : decode cX7_findBlock 30 = .ok (.ifCond .le 81, 3) := by decide +kernel
theorem dX7_findBlock_33 : decode cX7_findBlock 33 = .ok (.aload_n 0, 1) := by decide +kernel
theorem dX7_findBlock_34 : decode cX7_findBlock 34 = .ok (.iload 6, 2) := by decide +kernel
theorem dX7_findBlock_36 : decode cX7_findBlock 36 = .ok (.iload_n 1, 1) := by decide +kernel
theorem dX7_findBlock_37 : decode cX7_findBlock 37 = .ok (.invokevirtual 77, 3) := by decide +kernel
theorem dX7_findBlock_40 : decode cX7_findBlock 40 = .ok (.ifCond .eq 60, 3) := by decide +kernel
theorem dX7_findBlock_43 : decode cX7_findBlock 43 = .ok (.aload_n 0, 1) := by decide +kernel
theorem dX7_findBlock_44 : decode cX7_findBlock 44 = .ok (.iload 6, 2) := by decide +kernel
theorem dX7_findBlock_46 : decode cX7_findBlock 46 = .ok (.invokevirtual 70, 3) := by decide +kernel
theorem dX7_findBlock_49 : decode cX7_findBlock 49 = .ok (.istore 7, 2) := by decide +kernel
theorem dX7_findBlock_51 : decode cX7_findBlock 51 = .ok (.aload_n 0, 1) := by decide +kernel
theorem dX7_findBlock_52 : decode cX7_findBlock 52 = .ok (.iload 6, 2) := by decide +kernel
theorem dX7_findBlock_54 : decode cX7_findBlock 54 = .ok (.invokevirtual 74, 3) := by decide +kernel
theorem dX7_findBlock_57 : decode cX7_findBlock 57 = .ok (.istore 8, 2) := by decide +kernel
theorem dX7_findBlock_59 : decode cX7_findBlock 59 = .ok (.iload 8, 2) := by decide +kernel
theorem dX7_findBlock_61 : decode cX7_findBlock 61 = .ok (.iload 4, 2) := by decide +kernel
theorem dX7_findBlock_63 : decode cX7_findBlock 63 = .ok (.imul, 1) := by decide +kernel
theorem dX7_findBlock_64 : decode cX7_findBlock 64 = .ok (.iload 5, 2) := by decide +kernel
theorem dX7_findBlock_66 : decode cX7_findBlock 66 = .ok (.iload 7, 2) := by decide +kernel
theorem dX7_findBlock_68 : decode cX7_findBlock 68 = .ok (.imul, 1) := by decide +kernel
theorem dX7_findBlock_69 : decode cX7_findBlock 69 = .ok (.isub, 1) := by decide +kernel
theorem dX7_findBlock_70 : decode cX7_findBlock 70 = .ok (.istore 9, 2) := by decide +kernel
theorem dX7_findBlock_72 : decode cX7_findBlock 72 = .ok (.iload 9, 2) := by decide +kernel
theorem dX7_findBlock_74 : decode cX7_findBlock 74 = .ok (.ifCond .gt 15, 3) := by decide +kernel
theorem dX7_findBlock_77 : decode cX7_findBlock 77 = .ok (.iload 9, 2) := by decide +kernel
theorem dX7_findBlock_79 : decode cX7_findBlock 79 = .ok (.ifCond .ne 21, 3) := by decide +kernel
theorem dX7_findBlock_82 : decode cX7_findBlock 82 = .ok (.iload 7, 2) := by decide +kernel
theorem dX7_findBlock_84 : decode cX7_findBlock 84 = .ok (.iload 4, 2) := by decide +kernel
theorem dX7_findBlock_86 : decode cX7_findBlock 86 = .ok (.if_icmp .le 14, 3) := by decide +kernel
theorem dX7_findBlock_89 : decode cX7_findBlock 89 = .ok (.iload 6, 2) := by decide +kernel
theorem dX7_findBlock_91 : decode cX7_findBlock 91 = .ok (.istore_n 3, 1) := by decide +kernel
theorem dX7_findBlock_92 : decode cX7_findBlock 92 = .ok (.iload 7, 2) := by decide +kernel
theorem dX7_findBlock_94 : decode cX7_findBlock 94 = .ok (.istore 4, 2) := by decide +kernel
theorem dX7_findBlock_96 : decode cX7_findBlock 96 = .ok (.iload 8, 2) := by decide +kernel
theorem dX7_findBlock_98 : decode cX7_findBlock 98 = .ok (.istore 5, 2) := by decide +kernel
theorem dX7_findBlock_100 : decode cX7_findBlock 100 = .ok (.iload 6, 2) := by decide +kernel
theorem dX7_findBlock_102 : decode cX7_findBlock 102 = .ok (.iconst 1, 1) := by decide +kernel
theorem dX7_findBlock_103 : decode cX7_findBlock 103 = .ok (.isub, 1) := by decide +kernel
theorem dX7_findBlock_104 : decode cX7_findBlock 104 = .ok (.iload_n 2, 1) := by decide +kernel
theorem dX7_findBlock_105 : decode cX7_findBlock 105 = .ok (.iand, 1) := by decide +kernel
theorem dX7_findBlock_106 : decode cX7_findBlock 106 = .ok (.istore 6, 2) := by decide +kernel
theorem dX7_findBlock_108 : decode cX7_findBlock 108 = .ok (.goto (-80), 3) := by decide +kernel
theorem dX7_findBlock_111 : decode cX7_findBlock 111 = .ok (.iload_n 3, 1) := by decide +kernel
theorem dX7_findBlock_112 : decode cX7_findBlock 112 = .ok (.ireturn, 1) := by decide +kernel
theorem dX7_findOrders_0 : decode cX7_findOrders 0 = .ok (.aload_n 0, 1) := by decide +kernel
theorem dX7_findOrders_1 : decode cX7_findOrders 1 = .ok (.getfield 28, 3) := by decide +kernel
end
section
theorem dX7_findOrders_4 : decode cX7_findOrders 4 = .ok (.aload_n 1, 1) := by decide +kernel
theorem dX7_findOrders_5 : decode cX7_findOrders 5 = .ok (.invokevirtual 37, 3) := by decide +kernel
theorem dX7_findOrders_8 : decode cX7_findOrders 8 = .ok (.if_icmp .ne 4, 3) := by decide +kernel
theorem dX7_findOrders_11 : decode cX7_findOrders 11 = .ok (.return_, 1) := by decide +kernel
theorem dX7_findOrders_12 : decode cX7_findOrders 12 = .ok (.aload_n 0, 1) := by decide +kernel
theorem dX7_findOrders_13 : decode cX7_findOrders 13 = .ok (.aload_n 1, 1) := by decide +kernel
theorem dX7_findOrders_14 : decode cX7_findOrders 14 = .ok (.invokevirtual 37, 3) := by decide +kernel
theorem dX7_findOrders_17 : decode cX7_findOrders 17 = .ok (.putfield 28, 3) := by decide +kernel
theorem dX7_findOrders_20 : decode cX7_findOrders 20 = .ok (.aload_n 1, 1) := by decide +kernel
theorem dX7_findOrders_21 : decode cX7_findOrders 21 = .ok (.invokevirtual 63, 3) := by decide +kernel
theorem dX7_findOrders_24 : decode cX7_findOrders 24 = .ok (.istore_n 2, 1) := by decide +kernel
theorem dX7_findOrders_25 : decode cX7_findOrders 25 = .ok (.aload_n 0, 1) := by decide +kernel
theorem dX7_findOrders_26 : decode cX7_findOrders 26 = .ok (.getfield 19, 3) := by decide +kernel
theorem dX7_findOrders_29 : decode cX7_findOrders 29 = .ok (.iload_n 2, 1) := by decide +kernel
theorem dX7_findOrders_30 : decode cX7_findOrders 30 = .ok (.iconst 0, 1) := by decide +kernel
theorem dX7_findOrders_31 : decode cX7_findOrders 31 = .ok (.iastore, 1) := by decide +kernel
theorem dX7_findOrders_32 : decode cX7_findOrders 32 = .ok (.aload_n 0, 1) := by decide +kernel
theorem dX7_findOrders_33 : decode cX7_findOrders 33 = .ok (.getfield 22, 3) := by decide +kernel
theorem dX7_findOrders_36 : decode cX7_findOrders 36 = .ok (.iload_n 2, 1) := by decide +kernel
theorem dX7_findOrders_37 : decode cX7_findOrders 37 = .ok (.iconst 1, 1) := by decide +kernel
theorem dX7_findOrders_38 : decode cX7_findOrders 38 = .ok (.iastore, 1) := by decide +kernel
theorem dX7_findOrders_39 : decode cX7_findOrders 39 = .ok (.iload_n 2, 1) := by decide +kernel
theorem dX7_findOrders_40 : decode cX7_findOrders 40 = .ok (.iconst 1, 1) := by decide +kernel
theorem dX7_findOrders_41 : decode cX7_findOrders 41 = .ok (.isub, 1) := by decide +kernel
theorem dX7_findOrders_42 : decode cX7_findOrders 42 = .ok (.istore_n 3, 1) := by decide +kernel
theorem dX7_findOrders_43 : decode cX7_findOrders 43 = .ok (.iload_n 3, 1) := by decide +kernel
theorem dX7_findOrders_44 : decode cX7_findOrders 44 = .ok (.ifCond .lt 35, 3) := by decide +kernel
theorem dX7_findOrders_47 : decode cX7_findOrders 47 = .ok (.aload_n 1, 1) := by decide +kernel
theorem dX7_findOrders_48 : decode cX7_findOrders 48 = .ok (.iload_n 3, 1) := by decide +kernel
theorem dX7_findOrders_49 : decode cX7_findOrders 49 = .ok (.iconst 0, 1) := by decide +kernel
theorem dX7_findOrders_50 : decode cX7_findOrders 50 = .ok (.invokevirtual 77, 3) := by decide +kernel
theorem dX7_findOrders_53 : decode cX7_findOrders 53 = .ok (.ifCond .eq 12, 3) := by decide +kernel
theorem dX7_findOrders_56 : decode cX7_findOrders 56 = .ok (.aload_n 0, 1) := by decide +kernel
theorem dX7_findOrders_57 : decode cX7_findOrders 57 = .ok (.aload_n 1, 1) := by decide +kernel
theorem dX7_findOrders_58 : decode cX7_findOrders 58 = .ok (.iload_n 3, 1) := by decide +kernel
theorem dX7_findOrders_59 : decode cX7_findOrders 59 = .ok (.invokevirtual 80, 3) := by decide +kernel
theorem dX7_findOrders_62 : decode cX7_findOrders 62 = .ok (.goto 11, 3) := by decide +kernel
theorem dX7_findOrders_65 : decode cX7_findOrders 65 = .ok (.aload_n 0, 1) := by decide +kernel
theorem dX7_findOrders_66 : decode cX7_findOrders 66 = .ok (.getfield 19, 3) := by decide +kernel
theorem dX7_findOrders_69 : decode cX7_findOrders 69 = .ok (.iload_n 3, 1) := by decide +kernel
theorem dX7_findOrders_70 : decode cX7_findOrders 70 = .ok (.ldc 84, 2) := by decide +kernel
theorem dX7_findOrders_72 : decode cX7_findOrders 72 = .ok (.iastore, 1) := by decide +kernel
theorem dX7_findOrders_73 : decode cX7_findOrders 73 = .ok (.iinc 3 (-1), 3) := by decide +kernel
theorem dX7_findOrders_76 : decode cX7_findOrders 76 = .ok (.goto (-33), 3) := by decide +kernel
theorem dX7_findOrders_79 : decode cX7_findOrders 79 = .ok (.aload_n 0, 1) := by decide +kernel
theorem dX7_findOrders_80 : decode cX7_findOrders 80 = .ok (.aload_n 1, 1) := by decide +kernel
theorem dX7_findOrders_81 : decode cX7_findOrders 81 = .ok (.invokevirtual 85, 3) := by decide +kernel
theorem dX7_findOrders_84 : decode cX7_findOrders 84 = .ok (.return_, 1) := by decide +kernel
theorem dX7_goOnFrom_0 : decode cX7_goOnFrom 0 = .ok (.aload_n 1, 1) := by decide +kernel
theorem dX7_goOnFrom_1 : decode cX7_goOnFrom 1 = .ok (.invokevirtual 88, 3) := by decide +kernel
theorem dX7_goOnFrom_4 : decode cX7_goOnFrom 4 = .ok (.istore_n 3, 1) := by decide +kernel
theorem dX7_goOnFrom_5 : decode cX7_goOnFrom 5 = .ok (.aload_n 1, 1) := by decide +kernel
theorem dX7_goOnFrom_6 : decode cX7_goOnFrom 6 = .ok (.iload_n 2, 1) := by decide +kernel
theorem dX7_goOnFrom_7 : decode cX7_goOnFrom 7 = .ok (.invokevirtual 70, 3) := by decide +kernel
theorem dX7_goOnFrom_10 : decode cX7_goOnFrom 10 = .ok (.istore 4, 2) := by decide +kernel
theorem dX7_goOnFrom_12 : decode cX7_goOnFrom 12 = .ok (.ldc 84, 2) := by decide +kernel
theorem dX7_goOnFrom_14 : decode cX7_goOnFrom 14 = .ok (.istore 5, 2) := by decide +kernel
theorem dX7_goOnFrom_16 : decode cX7_goOnFrom 16 = .ok (.iconst 0, 1) := by decide +kernel
theorem dX7_goOnFrom_17 : decode cX7_goOnFrom 17 = .ok (.istore 6, 2) := by decide +kernel
theorem dX7_goOnFrom_19 : decode cX7_goOnFrom 19 = .ok (.iconst 0, 1) := by decide +kernel
theorem dX7_goOnFrom_20 : decode cX7_goOnFrom 20 = .ok (.istore 7, 2) := by decide +kernel
theorem dX7_goOnFrom_22 : decode cX7_goOnFrom 22 = .ok (.iload 7, 2) := by decide +kernel
theorem dX7_goOnFrom_24 : decode cX7_goOnFrom 24 = .ok (.iload_n 3, 1) := by decide +kernel
theorem dX7_goOnFrom_25 : decode cX7_goOnFrom 25 = .ok (.if_icmp .ge 87, 3) := by decide +kernel
theorem dX7_goOnFrom_28 : decode cX7_goOnFrom 28 = .ok (.aload_n 1, 1) := by decide +kernel
theorem dX7_goOnFrom_29 : decode cX7_goOnFrom 29 = .ok (.iload_n 2, 1) := by decide +kernel
theorem dX7_goOnFrom_30 : decode cX7_goOnFrom 30 = .ok (.iload 7, 2) := by decide +kernel
theorem dX7_goOnFrom_32 : decode cX7_goOnFrom 32 = .ok (.invokevirtual 91, 3) := by decide +kernel
theorem dX7_goOnFrom_35 : decode cX7_goOnFrom 35 = .ok (.ifCond .eq 71, 3) := by decide +kernel
theorem dX7_goOnFrom_38 : decode cX7_goOnFrom 38 = .ok (.iload_n 2, 1) := by decide +kernel
theorem dX7_goOnFrom_39 : decode cX7_goOnFrom 39 = .ok (.iconst 1, 1) := by decide +kernel
theorem dX7_goOnFrom_40 : decode cX7_goOnFrom 40 = .ok (.iload 7, 2) := by decide +kernel
theorem dX7_goOnFrom_42 : decode cX7_goOnFrom 42 = .ok (.ishl, 1) := by decide +kernel
theorem dX7_goOnFrom_43 : decode cX7_goOnFrom 43 = .ok (.ior, 1) := by decide +kernel
theorem dX7_goOnFrom_44 : decode cX7_goOnFrom 44 = .ok (.istore 8, 2) := by decide +kernel
theorem dX7_goOnFrom_46 : decode cX7_goOnFrom 46 = .ok (.aload_n 1, 1) := by decide +kernel
theorem dX7_goOnFrom_47 : decode cX7_goOnFrom 47 = .ok (.iload 4, 2) := by decide +kernel
theorem dX7_goOnFrom_49 : decode cX7_goOnFrom 49 = .ok (.iload 7, 2) := by decide +kernel
theorem dX7_goOnFrom_51 : decode cX7_goOnFrom 51 = .ok (.invokevirtual 94, 3) := by decide +kernel
theorem dX7_goOnFrom_54 : decode cX7_goOnFrom 54 = .ok (.aload_n 0, 1) := by decide +kernel
theorem dX7_goOnFrom_55 : decode cX7_goOnFrom 55 = .ok (.getfield 19, 3) := by decide +kernel
theorem dX7_goOnFrom_58 : decode cX7_goOnFrom 58 = .ok (.iload 8, 2) := by decide +kernel
theorem dX7_goOnFrom_60 : decode cX7_goOnFrom 60 = .ok (.iaload, 1) := by decide +kernel
theorem dX7_goOnFrom_61 : decode cX7_goOnFrom 61 = .ok (.iadd, 1) := by decide +kernel
theorem dX7_goOnFrom_62 : decode cX7_goOnFrom 62 = .ok (.istore 9, 2) := by decide +kernel
theorem dX7_goOnFrom_64 : decode cX7_goOnFrom 64 = .ok (.iload 9, 2) := by decide +kernel
theorem dX7_goOnFrom_66 : decode cX7_goOnFrom 66 = .ok (.iload 5, 2) := by decide +kernel
theorem dX7_goOnFrom_68 : decode cX7_goOnFrom 68 = .ok (.if_icmp .ge 19, 3) := by decide +kernel
theorem dX7_goOnFrom_71 : decode cX7_goOnFrom 71 = .ok (.iload 9, 2) := by decide +kernel
theorem dX7_goOnFrom_73 : decode cX7_goOnFrom 73 = .ok (.istore 5, 2) := by decide +kernel
theorem dX7_goOnFrom_75 : decode cX7_goOnFrom 75 = .ok (.aload_n 0, 1) := by decide +kernel
theorem dX7_goOnFrom_76 : decode cX7_goOnFrom 76 = .ok (.getfield 22, 3) := by decide +kernel
theorem dX7_goOnFrom_79 : decode cX7_goOnFrom 79 = .ok (.iload 8, 2) := by decide +kernel
theorem dX7_goOnFrom_81 : decode cX7_goOnFrom 81 = .ok (.iaload, 1) := by decide +kernel
theorem dX7_goOnFrom_82 : decode cX7_goOnFrom 82 = .ok (.istore 6, 2) := by decide +kernel
theorem dX7_goOnFrom_84 : decode cX7_goOnFrom 84 = .ok (.goto 22, 3) := by decide +kernel
theorem dX7_goOnFrom_87 : decode cX7_goOnFrom 87 = .ok (.iload 9, 2) := by decide +kernel
theorem dX7_goOnFrom_89 : decode cX7_goOnFrom 89 = .ok (.iload 5, 2) := by decide +kernel
theorem dX7_goOnFrom_91 : decode cX7_goOnFrom 91 = .ok (.if_icmp .ne 15, 3) := by decide +kernel
theorem dX7_goOnFrom_94 : decode cX7_goOnFrom 94 = .ok (.iload 6, 2) := by decide +kernel
theorem dX7_goOnFrom_96 : decode cX7_goOnFrom 96 = .ok (.aload_n 0, 1) := by decide +kernel
theorem dX7_goOnFrom_97 : decode cX7_goOnFrom 97 = .ok (.getfield 22, 3) := by decide +kernel
theorem dX7_goOnFrom_100 : decode cX7_goOnFrom 100 = .ok (.iload 8, 2) := by decide +kernel
theorem dX7_goOnFrom_102 : decode cX7_goOnFrom 102 = .ok (.iaload, 1) := by decide +kernel
theorem dX7_goOnFrom_103 : decode cX7_goOnFrom 103 = .ok (.iadd, 1) := by decide +kernel
theorem dX7_goOnFrom_104 : decode cX7_goOnFrom 104 = .ok (.istore 6, 2) := by decide +kernel
theorem dX7_goOnFrom_106 : decode cX7_goOnFrom 106 = .ok (.iinc 7 1, 3) := by decide +kernel
theorem dX7_goOnFrom_109 : decode cX7_goOnFrom 109 = .ok (.goto (-87), 3) := by decide +kernel
theorem dX7_goOnFrom_112 : decode cX7_goOnFrom 112 = .ok (.aload_n 0, 1) := by decide +kernel
theorem dX7_goOnFrom_113 : decode cX7_goOnFrom 113 = .ok (.getfield 19, 3) := by decide +kernel
theorem dX7_goOnFrom_116 : decode cX7_goOnFrom 116 = .ok (.iload_n 2, 1) := by decide +kernel
theorem dX7_goOnFrom_117 : decode cX7_goOnFrom 117 = .ok (.iload 5, 2) := by decide +kernel
theorem dX7_goOnFrom_119 : decode cX7_goOnFrom 119 = .ok (.iastore, 1) := by decide +kernel
theorem dX7_goOnFrom_120 : decode cX7_goOnFrom 120 = .ok (.aload_n 0, 1) := by decide +kernel
theorem dX7_goOnFrom_121 : decode cX7_goOnFrom 121 = .ok (.getfield 22, 3) := by decide +kernel
theorem dX7_goOnFrom_124 : decode cX7_goOnFrom 124 = .ok (.iload_n 2, 1) := by decide +kernel
theorem dX7_goOnFrom_125 : decode cX7_goOnFrom 125 = .ok (.iload 6, 2) := by decide +kernel
theorem dX7_goOnFrom_127 : decode cX7_goOnFrom 127 = .ok (.iastore, 1) := by decide +kernel
theorem dX7_goOnFrom_128 : decode cX7_goOnFrom 128 = .ok (.return_, 1) := by decide +kernel
theorem dX7_isBestNext_0 : decode cX7_isBestNext 0 = .ok (.aload_n 1, 1) := by decide +kernel
theorem dX7_isBestNext_1 : decode cX7_isBestNext 1 = .ok (.iload_n 2, 1) := by decide +kernel
theorem dX7_isBestNext_2 : decode cX7_isBestNext 2 = .ok (.iload_n 3, 1) := by decide +kernel
theorem dX7_isBestNext_3 : decode cX7_isBestNext 3 = .ok (.invokevirtual 91, 3) := by decide +kernel
theorem dX7_isBestNext_6 : decode cX7_isBestNext 6 = .ok (.ifCond .eq 37, 3) := by decide +kernel
theorem dX7_isBestNext_9 : decode cX7_isBestNext 9 = .ok (.aload_n 1, 1) := by decide +kernel
theorem dX7_isBestNext_10 : decode cX7_isBestNext 10 = .ok (.aload_n 1, 1) := by decide +kernel
theorem dX7_isBestNext_11 : decode cX7_isBestNext 11 = .ok (.iload_n 2, 1) := by decide +kernel
theorem dX7_isBestNext_12 : decode cX7_isBestNext 12 = .ok (.invokevirtual 70, 3) := by decide +kernel
theorem dX7_isBestNext_15 : decode cX7_isBestNext 15 = .ok (.iload_n 3, 1) := by decide +kernel
theorem dX7_isBestNext_16 : decode cX7_isBestNext 16 = .ok (.invokevirtual 94, 3) := by decide +kernel
theorem dX7_isBestNext_19 : decode cX7_isBestNext 19 = .ok (.aload_n 0, 1) := by decide +kernel
theorem dX7_isBestNext_20 : decode cX7_isBestNext 20 = .ok (.getfield 19, 3) := by decide +kernel
theorem dX7_isBestNext_23 : decode cX7_isBestNext 23 = .ok (.iload_n 2, 1) := by decide +kernel
theorem dX7_isBestNext_24 : decode cX7_isBestNext 24 = .ok (.iconst 1, 1) := by decide +kernel
theorem dX7_isBestNext_25 : decode cX7_isBestNext 25 = .ok (.iload_n 3, 1) := by decide +kernel
theorem dX7_isBestNext_26 : decode cX7_isBestNext 26 = .ok (.ishl, 1) := by decide +kernel
theorem dX7_isBestNext_27 : decode cX7_isBestNext 27 = .ok (.ior, 1) := by decide +kernel
theorem dX7_isBestNext_28 : decode cX7_isBestNext 28 = .ok (.iaload, 1) := by decide +kernel
theorem dX7_isBestNext_29 : decode cX7_isBestNext 29 = .ok (.iadd, 1) := by decide +kernel
theorem dX7_isBestNext_30 : decode cX7_isBestNext 30 = .ok (.aload_n 0, 1) := by decide +kernel
theorem dX7_isBestNext_31 : decode cX7_isBestNext 31 = .ok (.getfield 19, 3) := by decide +kernel
theorem dX7_isBestNext_34 : decode cX7_isBestNext 34 = .ok (.iload_n 2, 1) := by decide +kernel
theorem dX7_isBestNext_35 : decode cX7_isBestNext 35 = .ok (.iaload, 1) := by decide +kernel
theorem dX7_isBestNext_36 : decode cX7_isBestNext 36 = .ok (.if_icmp .ne 7, 3) := by decide +kernel
theorem dX7_isBestNext_39 : decode cX7_isBestNext 39 = .ok (.iconst 1, 1) := by decide +kernel
theorem dX7_isBestNext_40 : decode cX7_isBestNext 40 = .ok (.goto 4, 3) := by decide +kernel
theorem dX7_isBestNext_43 : decode cX7_isBestNext 43 = .ok (.iconst 0, 1) := by decide +kernel
theorem dX7_isBestNext_44 : decode cX7_isBestNext 44 = .ok (.ireturn, 1) := by decide +kernel
theorem dX7_readBestRow_0 : decode cX7_readBestRow 0 = .ok (.iconst 0, 1) := by decide +kernel
theorem dX7_readBestRow_1 : decode cX7_readBestRow 1 = .ok (.istore_n 2, 1) := by decide +kernel
theorem dX7_readBestRow_2 : decode cX7_readBestRow 2 = .ok (.iconst 0, 1) := by decide +kernel
theorem dX7_readBestRow_3 : decode cX7_readBestRow 3 = .ok (.istore_n 3, 1) := by decide +kernel
theorem dX7_readBestRow_4 : decode cX7_readBestRow 4 = .ok (.iload_n 3, 1) := by decide +kernel
theorem dX7_readBestRow_5 : decode cX7_readBestRow 5 = .ok (.aload_n 1, 1) := by decide +kernel
theorem dX7_readBestRow_6 : decode cX7_readBestRow 6 = .ok (.invokevirtual 88, 3) := by decide +kernel
theorem dX7_readBestRow_9 : decode cX7_readBestRow 9 = .ok (.if_icmp .ge 32, 3) := by decide +kernel
theorem dX7_readBestRow_12 : decode cX7_readBestRow 12 = .ok (.aload_n 0, 1) := by decide +kernel
theorem dX7_readBestRow_13 : decode cX7_readBestRow 13 = .ok (.aload_n 1, 1) := by decide +kernel
theorem dX7_readBestRow_14 : decode cX7_readBestRow 14 = .ok (.iload_n 2, 1) := by decide +kernel
theorem dX7_readBestRow_15 : decode cX7_readBestRow 15 = .ok (.invokevirtual 98, 3) := by decide +kernel
theorem dX7_readBestRow_18 : decode cX7_readBestRow 18 = .ok (.istore 4, 2) := by decide +kernel
theorem dX7_readBestRow_20 : decode cX7_readBestRow 20 = .ok (.aload_n 0, 1) := by decide +kernel
theorem dX7_readBestRow_21 : decode cX7_readBestRow 21 = .ok (.getfield 25, 3) := by decide +kernel
theorem dX7_readBestRow_24 : decode cX7_readBestRow 24 = .ok (.iload_n 3, 1) := by decide +kernel
theorem dX7_readBestRow_25 : decode cX7_readBestRow 25 = .ok (.iload 4, 2) := by decide +kernel
theorem dX7_readBestRow_27 : decode cX7_readBestRow 27 = .ok (.iastore, 1) := by decide +kernel
theorem dX7_readBestRow_28 : decode cX7_readBestRow 28 = .ok (.iload_n 2, 1) := by decide +kernel
theorem dX7_readBestRow_29 : decode cX7_readBestRow 29 = .ok (.iconst 1, 1) := by decide +kernel
theorem dX7_readBestRow_30 : decode cX7_readBestRow 30 = .ok (.iload 4, 2) := by decide +kernel
theorem dX7_readBestRow_32 : decode cX7_readBestRow 32 = .ok (.ishl, 1) := by decide +kernel
theorem dX7_readBestRow_33 : decode cX7_readBestRow 33 = .ok (.ior, 1) := by decide +kernel
theorem dX7_readBestRow_34 : decode cX7_readBestRow 34 = .ok (.istore_n 2, 1) := by decide +kernel
theorem dX7_readBestRow_35 : decode cX7_readBestRow 35 = .ok (.iinc 3 1, 3) := by decide +kernel
theorem dX7_readBestRow_38 : decode cX7_readBestRow 38 = .ok (.goto (-34), 3) := by decide +kernel
theorem dX7_readBestRow_41 : decode cX7_readBestRow 41 = .ok (.return_, 1) := by decide +kernel
theorem dX7_leastBestNext_0 : decode cX7_leastBestNext 0 = .ok (.iconst 0, 1) := by decide +kernel
theorem dX7_leastBestNext_1 : decode cX7_leastBestNext 1 = .ok (.istore_n 3, 1) := by decide +kernel
theorem dX7_leastBestNext_2 : decode cX7_leastBestNext 2 = .ok (.iload_n 3, 1) := by decide +kernel
theorem dX7_leastBestNext_3 : decode cX7_leastBestNext 3 = .ok (.aload_n 1, 1) := by decide +kernel
theorem dX7_leastBestNext_4 : decode cX7_leastBestNext 4 = .ok (.invokevirtual 88, 3) := by decide +kernel
theorem dX7_leastBestNext_7 : decode cX7_leastBestNext 7 = .ok (.iconst 1, 1) := by decide +kernel
theorem dX7_leastBestNext_8 : decode cX7_leastBestNext 8 = .ok (.isub, 1) := by decide +kernel
theorem dX7_leastBestNext_9 : decode cX7_leastBestNext 9 = .ok (.if_icmp .ge 21, 3) := by decide +kernel
theorem dX7_leastBestNext_12 : decode cX7_leastBestNext 12 = .ok (.aload_n 0, 1) := by decide +kernel
theorem dX7_leastBestNext_13 : decode cX7_leastBestNext 13 = .ok (.aload_n 1, 1) := by decide +kernel
theorem dX7_leastBestNext_14 : decode cX7_leastBestNext 14 = .ok (.iload_n 2, 1) := by decide +kernel
theorem dX7_leastBestNext_15 : decode cX7_leastBestNext 15 = .ok (.iload_n 3, 1) := by decide +kernel
theorem dX7_leastBestNext_16 : decode cX7_leastBestNext 16 = .ok (.invokevirtual 101, 3) := by decide +kernel
theorem dX7_leastBestNext_19 : decode cX7_leastBestNext 19 = .ok (.ifCond .eq 5, 3) := by decide +kernel
theorem dX7_leastBestNext_22 : decode cX7_leastBestNext 22 = .ok (.iload_n 3, 1) := by decide +kernel
theorem dX7_leastBestNext_23 : decode cX7_leastBestNext 23 = .ok (.ireturn, 1) := by decide +kernel
theorem dX7_leastBestNext_24 : decode cX7_leastBestNext 24 = .ok (.iinc 3 1, 3) := by decide +kernel
theorem dX7_leastBestNext_27 : decode cX7_leastBestNext 27 = .ok (.goto (-25), 3) := by decide +kernel
theorem dX7_leastBestNext_30 : decode cX7_leastBestNext 30 = .ok (.aload_n 1, 1) := by decide +kernel
theorem dX7_leastBestNext_31 : decode cX7_leastBestNext 31 = .ok (.invokevirtual 88, 3) := by decide +kernel
theorem dX7_leastBestNext_34 : decode cX7_leastBestNext 34 = .ok (.iconst 1, 1) := by decide +kernel
theorem dX7_leastBestNext_35 : decode cX7_leastBestNext 35 = .ok (.isub, 1) := by decide +kernel
theorem dX7_leastBestNext_36 : decode cX7_leastBestNext 36 = .ok (.ireturn, 1) := by decide +kernel
theorem dX7_findStanding_0 : decode cX7_findStanding 0 = .ok (.iconst 0, 1) := by decide +kernel
theorem dX7_findStanding_1 : decode cX7_findStanding 1 = .ok (.istore_n 2, 1) := by decide +kernel
theorem dX7_findStanding_2 : decode cX7_findStanding 2 = .ok (.iload_n 2, 1) := by decide +kernel
theorem dX7_findStanding_3 : decode cX7_findStanding 3 = .ok (.aload_n 1, 1) := by decide +kernel
theorem dX7_findStanding_4 : decode cX7_findStanding 4 = .ok (.invokevirtual 88, 3) := by decide +kernel
theorem dX7_findStanding_7 : decode cX7_findStanding 7 = .ok (.if_icmp .ge 16, 3) := by decide +kernel
theorem dX7_findStanding_10 : decode cX7_findStanding 10 = .ok (.aload_n 0, 1) := by decide +kernel
theorem dX7_findStanding_11 : decode cX7_findStanding 11 = .ok (.getfield 31, 3) := by decide +kernel
theorem dX7_findStanding_14 : decode cX7_findStanding 14 = .ok (.iload_n 2, 1) := by decide +kernel
theorem dX7_findStanding_15 : decode cX7_findStanding 15 = .ok (.iconst 0, 1) := by decide +kernel
theorem dX7_findStanding_16 : decode cX7_findStanding 16 = .ok (.iastore, 1) := by decide +kernel
theorem dX7_findStanding_17 : decode cX7_findStanding 17 = .ok (.iinc 2 1, 3) := by decide +kernel
theorem dX7_findStanding_20 : decode cX7_findStanding 20 = .ok (.goto (-18), 3) := by decide +kernel
theorem dX7_findStanding_23 : decode cX7_findStanding 23 = .ok (.aload_n 1, 1) := by decide +kernel
theorem dX7_findStanding_24 : decode cX7_findStanding 24 = .ok (.invokevirtual 63, 3) := by decide +kernel
theorem dX7_findStanding_27 : decode cX7_findStanding 27 = .ok (.istore_n 2, 1) := by decide +kernel
theorem dX7_findStanding_28 : decode cX7_findStanding 28 = .ok (.iconst 1, 1) := by decide +kernel
theorem dX7_findStanding_29 : decode cX7_findStanding 29 = .ok (.istore_n 3, 1) := by decide +kernel
theorem dX7_findStanding_30 : decode cX7_findStanding 30 = .ok (.iload_n 3, 1) := by decide +kernel
theorem dX7_findStanding_31 : decode cX7_findStanding 31 = .ok (.iload_n 2, 1) := by decide +kernel
theorem dX7_findStanding_32 : decode cX7_findStanding 32 = .ok (.if_icmp .gt 46, 3) := by decide +kernel
theorem dX7_findStanding_35 : decode cX7_findStanding 35 = .ok (.aload_n 0, 1) := by decide +kernel
theorem dX7_findStanding_36 : decode cX7_findStanding 36 = .ok (.getfield 19, 3) := by decide +kernel
theorem dX7_findStanding_39 : decode cX7_findStanding 39 = .ok (.iload_n 3, 1) := by decide +kernel
theorem dX7_findStanding_40 : decode cX7_findStanding 40 = .ok (.iaload, 1) := by decide +kernel
theorem dX7_findStanding_41 : decode cX7_findStanding 41 = .ok (.ldc 84, 2) := by decide +kernel
theorem dX7_findStanding_43 : decode cX7_findStanding 43 = .ok (.if_icmp .eq 29, 3) := by decide +kernel
theorem dX7_findStanding_46 : decode cX7_findStanding 46 = .ok (.aload_n 0, 1) := by decide +kernel
theorem dX7_findStanding_47 : decode cX7_findStanding 47 = .ok (.aload_n 1, 1) := by decide +kernel
theorem dX7_findStanding_48 : decode cX7_findStanding 48 = .ok (.iload_n 3, 1) := by decide +kernel
theorem dX7_findStanding_49 : decode cX7_findStanding 49 = .ok (.invokevirtual 105, 3) := by decide +kernel
theorem dX7_findStanding_52 : decode cX7_findStanding 52 = .ok (.ifCond .eq 12, 3) := by decide +kernel
theorem dX7_findStanding_55 : decode cX7_findStanding 55 = .ok (.aload_n 0, 1) := by decide +kernel
theorem dX7_findStanding_56 : decode cX7_findStanding 56 = .ok (.aload_n 1, 1) := by decide +kernel
theorem dX7_findStanding_57 : decode cX7_findStanding 57 = .ok (.iload_n 3, 1) := by decide +kernel
theorem dX7_findStanding_58 : decode cX7_findStanding 58 = .ok (.invokevirtual 109, 3) := by decide +kernel
theorem dX7_findStanding_61 : decode cX7_findStanding 61 = .ok (.goto 11, 3) := by decide +kernel
theorem dX7_findStanding_64 : decode cX7_findStanding 64 = .ok (.aload_n 0, 1) := by decide +kernel
theorem dX7_findStanding_65 : decode cX7_findStanding 65 = .ok (.getfield 19, 3) := by decide +kernel
theorem dX7_findStanding_68 : decode cX7_findStanding 68 = .ok (.iload_n 3, 1) := by decide +kernel
theorem dX7_findStanding_69 : decode cX7_findStanding 69 = .ok (.ldc 84, 2) := by decide +kernel
theorem dX7_findStanding_71 : decode cX7_findStanding 71 = .ok (.iastore, 1) := by decide +kernel
theorem dX7_findStanding_72 : decode cX7_findStanding 72 = .ok (.iinc 3 1, 3) := by decide +kernel
theorem dX7_findStanding_75 : decode cX7_findStanding 75 = .ok (.goto (-45), 3) := by decide +kernel
theorem dX7_findStanding_78 : decode cX7_findStanding 78 = .ok (.return_, 1) := by decide +kernel
theorem dX7_beginsBestOrder_0 : decode cX7_beginsBestOrder 0 = .ok (.iconst 0, 1) := by decide +kernel
theorem dX7_beginsBestOrder_1 : decode cX7_beginsBestOrder 1 = .ok (.istore_n 3, 1) := by decide +kernel
theorem dX7_beginsBestOrder_2 : decode cX7_beginsBestOrder 2 = .ok (.iload_n 3, 1) := by decide +kernel
theorem dX7_beginsBestOrder_3 : decode cX7_beginsBestOrder 3 = .ok (.aload_n 1, 1) := by decide +kernel
theorem dX7_beginsBestOrder_4 : decode cX7_beginsBestOrder 4 = .ok (.invokevirtual 88, 3) := by decide +kernel
theorem dX7_beginsBestOrder_7 : decode cX7_beginsBestOrder 7 = .ok (.if_icmp .ge 49, 3) := by decide +kernel
theorem dX7_beginsBestOrder_10 : decode cX7_beginsBestOrder 10 = .ok (.iload_n 2, 1) := by decide +kernel
theorem dX7_beginsBestOrder_11 : decode cX7_beginsBestOrder 11 = .ok (.iconst 1, 1) := by decide +kernel
theorem dX7_beginsBestOrder_12 : decode cX7_beginsBestOrder 12 = .ok (.iload_n 3, 1) := by decide +kernel
theorem dX7_beginsBestOrder_13 : decode cX7_beginsBestOrder 13 = .ok (.ishl, 1) := by decide +kernel
theorem dX7_beginsBestOrder_14 : decode cX7_beginsBestOrder 14 = .ok (.iconst (-1), 1) := by decide +kernel
theorem dX7_beginsBestOrder_15 : decode cX7_beginsBestOrder 15 = .ok (.ixor, 1) := by decide +kernel
theorem dX7_beginsBestOrder_16 : decode cX7_beginsBestOrder 16 = .ok (.iand, 1) := by decide +kernel
theorem dX7_beginsBestOrder_17 : decode cX7_beginsBestOrder 17 = .ok (.istore 4, 2) := by decide +kernel
theorem dX7_beginsBestOrder_19 : decode cX7_beginsBestOrder 19 = .ok (.iload 4, 2) := by decide +kernel
theorem dX7_beginsBestOrder_21 : decode cX7_beginsBestOrder 21 = .ok (.iload_n 2, 1) := by decide +kernel
theorem dX7_beginsBestOrder_22 : decode cX7_beginsBestOrder 22 = .ok (.if_icmp .eq 28, 3) := by decide +kernel
theorem dX7_beginsBestOrder_25 : decode cX7_beginsBestOrder 25 = .ok (.aload_n 0, 1) := by decide +kernel
theorem dX7_beginsBestOrder_26 : decode cX7_beginsBestOrder 26 = .ok (.getfield 19, 3) := by decide +kernel
theorem dX7_beginsBestOrder_29 : decode cX7_beginsBestOrder 29 = .ok (.iload 4, 2) := by decide +kernel
theorem dX7_beginsBestOrder_31 : decode cX7_beginsBestOrder 31 = .ok (.iaload, 1) := by decide +kernel
theorem dX7_beginsBestOrder_32 : decode cX7_beginsBestOrder 32 = .ok (.ldc 84, 2) := by decide +kernel
theorem dX7_beginsBestOrder_34 : decode cX7_beginsBestOrder 34 = .ok (.if_icmp .eq 16, 3) := by decide +kernel
theorem dX7_beginsBestOrder_37 : decode cX7_beginsBestOrder 37 = .ok (.aload_n 0, 1) := by decide +kernel
theorem dX7_beginsBestOrder_38 : decode cX7_beginsBestOrder 38 = .ok (.aload_n 1, 1) := by decide +kernel
theorem dX7_beginsBestOrder_39 : decode cX7_beginsBestOrder 39 = .ok (.iload 4, 2) := by decide +kernel
theorem dX7_beginsBestOrder_41 : decode cX7_beginsBestOrder 41 = .ok (.iload_n 3, 1) := by decide +kernel
theorem dX7_beginsBestOrder_42 : decode cX7_beginsBestOrder 42 = .ok (.invokevirtual 101, 3) := by decide +kernel
theorem dX7_beginsBestOrder_45 : decode cX7_beginsBestOrder 45 = .ok (.ifCond .eq 5, 3) := by decide +kernel
theorem dX7_beginsBestOrder_48 : decode cX7_beginsBestOrder 48 = .ok (.iconst 1, 1) := by decide +kernel
theorem dX7_beginsBestOrder_49 : decode cX7_beginsBestOrder 49 = .ok (.ireturn, 1) := by decide +kernel
theorem dX7_beginsBestOrder_50 : decode cX7_beginsBestOrder 50 = .ok (.iinc 3 1, 3) := by decide +kernel
theorem dX7_beginsBestOrder_53 : decode cX7_beginsBestOrder 53 = .ok (.goto (-51), 3) := by decide +kernel
theorem dX7_beginsBestOrder_56 : decode cX7_beginsBestOrder 56 = .ok (.iconst 0, 1) := by decide +kernel
theorem dX7_beginsBestOrder_57 : decode cX7_beginsBestOrder 57 = .ok (.ireturn, 1) := by decide +kernel
theorem dX7_noteStanding_0 : decode cX7_noteStanding 0 = .ok (.aload_n 1, 1) := by decide +kernel
theorem dX7_noteStanding_1 : decode cX7_noteStanding 1 = .ok (.invokevirtual 88, 3) := by decide +kernel
theorem dX7_noteStanding_4 : decode cX7_noteStanding 4 = .ok (.istore_n 3, 1) := by decide +kernel
theorem dX7_noteStanding_5 : decode cX7_noteStanding 5 = .ok (.aload_n 1, 1) := by decide +kernel
theorem dX7_noteStanding_6 : decode cX7_noteStanding 6 = .ok (.invokevirtual 63, 3) := by decide +kernel
theorem dX7_noteStanding_9 : decode cX7_noteStanding 9 = .ok (.iload_n 2, 1) := by decide +kernel
theorem dX7_noteStanding_10 : decode cX7_noteStanding 10 = .ok (.iconst (-1), 1) := by decide +kernel
theorem dX7_noteStanding_11 : decode cX7_noteStanding 11 = .ok (.ixor, 1) := by decide +kernel
theorem dX7_noteStanding_12 : decode cX7_noteStanding 12 = .ok (.iand, 1) := by decide +kernel
theorem dX7_noteStanding_13 : decode cX7_noteStanding 13 = .ok (.istore 4, 2) := by decide +kernel
theorem dX7_noteStanding_15 : decode cX7_noteStanding 15 = .ok (.iconst 0, 1) := by decide +kernel
theorem dX7_noteStanding_16 : decode cX7_noteStanding 16 = .ok (.istore 5, 2) := by decide +kernel
theorem dX7_noteStanding_18 : decode cX7_noteStanding 18 = .ok (.iload 5, 2) := by decide +kernel
theorem dX7_noteStanding_20 : decode cX7_noteStanding 20 = .ok (.iload_n 3, 1) := by decide +kernel
theorem dX7_noteStanding_21 : decode cX7_noteStanding 21 = .ok (.if_icmp .ge 31, 3) := by decide +kernel
theorem dX7_noteStanding_24 : decode cX7_noteStanding 24 = .ok (.iload_n 2, 1) := by decide +kernel
theorem dX7_noteStanding_25 : decode cX7_noteStanding 25 = .ok (.iload 5, 2) := by decide +kernel
theorem dX7_noteStanding_27 : decode cX7_noteStanding 27 = .ok (.ishr, 1) := by decide +kernel
theorem dX7_noteStanding_28 : decode cX7_noteStanding 28 = .ok (.iconst 1, 1) := by decide +kernel
theorem dX7_noteStanding_29 : decode cX7_noteStanding 29 = .ok (.iand, 1) := by decide +kernel
theorem dX7_noteStanding_30 : decode cX7_noteStanding 30 = .ok (.iconst 1, 1) := by decide +kernel
theorem dX7_noteStanding_31 : decode cX7_noteStanding 31 = .ok (.if_icmp .ne 15, 3) := by decide +kernel
theorem dX7_noteStanding_34 : decode cX7_noteStanding 34 = .ok (.aload_n 0, 1) := by decide +kernel
theorem dX7_noteStanding_35 : decode cX7_noteStanding 35 = .ok (.getfield 31, 3) := by decide +kernel
theorem dX7_noteStanding_38 : decode cX7_noteStanding 38 = .ok (.iload 5, 2) := by decide +kernel
theorem dX7_noteStanding_40 : decode cX7_noteStanding 40 = .ok (.dup2, 1) := by decide +kernel
theorem dX7_noteStanding_41 : decode cX7_noteStanding 41 = .ok (.iaload, 1) := by decide +kernel
theorem dX7_noteStanding_42 : decode cX7_noteStanding 42 = .ok (.iload 4, 2) := by decide +kernel
theorem dX7_noteStanding_44 : decode cX7_noteStanding 44 = .ok (.ior, 1) := by decide +kernel
theorem dX7_noteStanding_45 : decode cX7_noteStanding 45 = .ok (.iastore, 1) := by decide +kernel
theorem dX7_noteStanding_46 : decode cX7_noteStanding 46 = .ok (.iinc 5 1, 3) := by decide +kernel
theorem dX7_noteStanding_49 : decode cX7_noteStanding 49 = .ok (.goto (-31), 3) := by decide +kernel
theorem dX7_noteStanding_52 : decode cX7_noteStanding 52 = .ok (.return_, 1) := by decide +kernel
theorem dX8_init_0 : decode cX8_init 0 = .ok (.aload_n 0, 1) := by decide +kernel
theorem dX8_init_1 : decode cX8_init 1 = .ok (.invokespecial 3, 3) := by decide +kernel
theorem dX8_init_4 : decode cX8_init 4 = .ok (.aload_n 0, 1) := by decide +kernel
theorem dX8_init_5 : decode cX8_init 5 = .ok (.bipush 20, 2) := by decide +kernel
theorem dX8_init_7 : decode cX8_init 7 = .ok (.newarray .int, 2) := by decide +kernel
theorem dX8_init_9 : decode cX8_init 9 = .ok (.putfield 9, 3) := by decide +kernel
theorem dX8_init_12 : decode cX8_init 12 = .ok (.aload_n 0, 1) := by decide +kernel
theorem dX8_init_13 : decode cX8_init 13 = .ok (.iconst (-1), 1) := by decide +kernel
theorem dX8_init_14 : decode cX8_init 14 = .ok (.putfield 15, 3) := by decide +kernel
theorem dX8_init_17 : decode cX8_init 17 = .ok (.return_, 1) := by decide +kernel
theorem dX8_isMissing_0 : decode cX8_isMissing 0 = .ok (.aload_n 0, 1) := by decide +kernel
theorem dX8_isMissing_1 : decode cX8_isMissing 1 = .ok (.getfield 15, 3) := by decide +kernel
theorem dX8_isMissing_4 : decode cX8_isMissing 4 = .ok (.iconst (-1), 1) := by decide +kernel
theorem dX8_isMissing_5 : decode cX8_isMissing 5 = .ok (.if_icmp .ne 7, 3) := by decide +kernel
theorem dX8_isMissing_8 : decode cX8_isMissing 8 = .ok (.iconst 1, 1) := by decide +kernel
theorem dX8_isMissing_9 : decode cX8_isMissing 9 = .ok (.goto 4, 3) := by decide +kernel
theorem dX8_isMissing_12 : decode cX8_isMissing 12 = .ok (.iconst 0, 1) := by decide +kernel
theorem dX8_isMissing_13 : decode cX8_isMissing 13 = .ok (.ireturn, 1) := by decide +kernel
theorem dX8_isOfSort_0 : decode cX8_isOfSort 0 = .ok (.aload_n 0, 1) := by decide +kernel
theorem dX8_isOfSort_1 : decode cX8_isOfSort 1 = .ok (.getfield 15, 3) := by decide +kernel
theorem dX8_isOfSort_4 : decode cX8_isOfSort 4 = .ok (.iload_n 1, 1) := by decide +kernel
theorem dX8_isOfSort_5 : decode cX8_isOfSort 5 = .ok (.if_icmp .ne 7, 3) := by decide +kernel
theorem dX8_isOfSort_8 : decode cX8_isOfSort 8 = .ok (.iconst 1, 1) := by decide +kernel
theorem dX8_isOfSort_9 : decode cX8_isOfSort 9 = .ok (.goto 4, 3) := by decide +kernel
theorem dX8_isOfSort_12 : decode cX8_isOfSort 12 = .ok (.iconst 0, 1) := by decide +kernel
theorem dX8_isOfSort_13 : decode cX8_isOfSort 13 = .ok (.ireturn, 1) := by decide +kernel
theorem dX8_size_0 : decode cX8_size 0 = .ok (.aload_n 0, 1) := by decide +kernel
theorem dX8_size_1 : decode cX8_size 1 = .ok (.getfield 19, 3) := by decide +kernel
theorem dX8_size_4 : decode cX8_size 4 = .ok (.ireturn, 1) := by decide +kernel
theorem dX8_numberAt_0 : decode cX8_numberAt 0 = .ok (.aload_n 0, 1) := by decide +kernel
theorem dX8_numberAt_1 : decode cX8_numberAt 1 = .ok (.getfield 9, 3) := by decide +kernel
theorem dX8_numberAt_4 : decode cX8_numberAt 4 = .ok (.iload_n 1, 1) := by decide +kernel
theorem dX8_numberAt_5 : decode cX8_numberAt 5 = .ok (.iaload, 1) := by decide +kernel
theorem dX8_numberAt_6 : decode cX8_numberAt 6 = .ok (.ireturn, 1) := by decide +kernel
theorem dX8_make_0 : decode cX8_make 0 = .ok (.aload_n 0, 1) := by decide +kernel
theorem dX8_make_1 : decode cX8_make 1 = .ok (.iload_n 1, 1) := by decide +kernel
theorem dX8_make_2 : decode cX8_make 2 = .ok (.putfield 15, 3) := by decide +kernel
theorem dX8_make_5 : decode cX8_make 5 = .ok (.aload_n 0, 1) := by decide +kernel
theorem dX8_make_6 : decode cX8_make 6 = .ok (.iload_n 2, 1) := by decide +kernel
theorem dX8_make_7 : decode cX8_make 7 = .ok (.putfield 19, 3) := by decide +kernel
theorem dX8_make_10 : decode cX8_make 10 = .ok (.iconst 0, 1) := by decide +kernel
theorem dX8_make_11 : decode cX8_make 11 = .ok (.istore_n 3, 1) := by decide +kernel
theorem dX8_make_12 : decode cX8_make 12 = .ok (.iload_n 3, 1) := by decide +kernel
theorem dX8_make_13 : decode cX8_make 13 = .ok (.bipush 20, 2) := by decide +kernel
theorem dX8_make_15 : decode cX8_make 15 = .ok (.if_icmp .ge 16, 3) := by decide +kernel
theorem dX8_make_18 : decode cX8_make 18 = .ok (.aload_n 0, 1) := by decide +kernel
theorem dX8_make_19 : decode cX8_make 19 = .ok (.getfield 9, 3) := by decide +kernel
theorem dX8_make_22 : decode cX8_make 22 = .ok (.iload_n 3, 1) := by decide +kernel
theorem dX8_make_23 : decode cX8_make 23 = .ok (.iconst 0, 1) := by decide +kernel
theorem dX8_make_24 : decode cX8_make 24 = .ok (.iastore, 1) := by decide +kernel
theorem dX8_make_25 : decode cX8_make 25 = .ok (.iinc 3 1, 3) := by decide +kernel
theorem dX8_make_28 : decode cX8_make 28 = .ok (.goto (-16), 3) := by decide +kernel
theorem dX8_make_31 : decode cX8_make 31 = .ok (.return_, 1) := by decide +kernel
theorem dX8_remove_0 : decode cX8_remove 0 = .ok (.aload_n 0, 1) := by decide +kernel
theorem dX8_remove_1 : decode cX8_remove 1 = .ok (.iconst (-1), 1) := by decide +kernel
theorem dX8_remove_2 : decode cX8_remove 2 = .ok (.putfield 15, 3) := by decide +kernel
theorem dX8_remove_5 : decode cX8_remove 5 = .ok (.aload_n 0, 1) := by decide +kernel
theorem dX8_remove_6 : decode cX8_remove 6 = .ok (.iconst 0, 1) := by decide +kernel
theorem dX8_remove_7 : decode cX8_remove 7 = .ok (.putfield 19, 3) := by decide +kernel
theorem dX8_remove_10 : decode cX8_remove 10 = .ok (.return_, 1) := by decide +kernel
theorem dX8_write_0 : decode cX8_write 0 = .ok (.aload_n 0, 1) := by decide +kernel
theorem dX8_write_1 : decode cX8_write 1 = .ok (.getfield 9, 3) := by decide +kernel
theorem dX8_write_4 : decode cX8_write 4 = .ok (.iload_n 1, 1) := by decide +kernel
theorem dX8_write_5 : decode cX8_write 5 = .ok (.aload_n 0, 1) := by decide +kernel
theorem dX8_write_6 : decode cX8_write 6 = .ok (.getfield 15, 3) := by decide +kernel
theorem dX8_write_9 : decode cX8_write 9 = .ok (.ifCond .ne 8, 3) := by decide +kernel
theorem dX8_write_12 : decode cX8_write 12 = .ok (.iload_n 2, 1) := by decide +kernel
theorem dX8_write_13 : decode cX8_write 13 = .ok (.i2s, 1) := by decide +kernel
theorem dX8_write_14 : decode cX8_write 14 = .ok (.goto 4, 3) := by decide +kernel
theorem dX8_write_17 : decode cX8_write 17 = .ok (.iload_n 2, 1) := by decide +kernel
theorem dX8_write_18 : decode cX8_write 18 = .ok (.iastore, 1) := by decide +kernel
theorem dX8_write_19 : decode cX8_write 19 = .ok (.return_, 1) := by decide +kernel
theorem dX8_refusalAs_0 : decode cX8_refusalAs 0 = .ok (.aload_n 0, 1) := by decide +kernel
theorem dX8_refusalAs_1 : decode cX8_refusalAs 1 = .ok (.invokevirtual 22, 3) := by decide +kernel
theorem dX8_refusalAs_4 : decode cX8_refusalAs 4 = .ok (.ifCond .eq 6, 3) := by decide +kernel
theorem dX8_refusalAs_7 : decode cX8_refusalAs 7 = .ok (.bipush 10, 2) := by decide +kernel
theorem dX8_refusalAs_9 : decode cX8_refusalAs 9 = .ok (.ireturn, 1) := by decide +kernel
theorem dX8_refusalAs_10 : decode cX8_refusalAs 10 = .ok (.aload_n 0, 1) := by decide +kernel
theorem dX8_refusalAs_11 : decode cX8_refusalAs 11 = .ok (.iload_n 1, 1) := by decide +kernel
theorem dX8_refusalAs_12 : decode cX8_refusalAs 12 = .ok (.invokevirtual 26, 3) := by decide +kernel
theorem dX8_refusalAs_15 : decode cX8_refusalAs 15 = .ok (.ifCond .eq 7, 3) := by decide +kernel
theorem dX8_refusalAs_18 : decode cX8_refusalAs 18 = .ok (.iconst 0, 1) := by decide +kernel
theorem dX8_refusalAs_19 : decode cX8_refusalAs 19 = .ok (.goto 5, 3) := by decide +kernel
theorem dX8_refusalAs_22 : decode cX8_refusalAs 22 = .ok (.bipush 11, 2) := by decide +kernel
theorem dX8_refusalAs_24 : decode cX8_refusalAs 24 = .ok (.ireturn, 1) := by decide +kernel
theorem dX8_sumFrom_0 : decode cX8_sumFrom 0 = .ok (.iconst 0, 1) := by decide +kernel
theorem dX8_sumFrom_1 : decode cX8_sumFrom 1 = .ok (.istore_n 3, 1) := by decide +kernel
theorem dX8_sumFrom_2 : decode cX8_sumFrom 2 = .ok (.iload_n 1, 1) := by decide +kernel
theorem dX8_sumFrom_3 : decode cX8_sumFrom 3 = .ok (.istore 4, 2) := by decide +kernel
theorem dX8_sumFrom_5 : decode cX8_sumFrom 5 = .ok (.iload 4, 2) := by decide +kernel
theorem dX8_sumFrom_7 : decode cX8_sumFrom 7 = .ok (.iload_n 1, 1) := by decide +kernel
theorem dX8_sumFrom_8 : decode cX8_sumFrom 8 = .ok (.iload_n 2, 1) := by decide +kernel
theorem dX8_sumFrom_9 : decode cX8_sumFrom 9 = .ok (.iadd, 1) := by decide +kernel
theorem dX8_sumFrom_10 : decode cX8_sumFrom 10 = .ok (.if_icmp .ge 19, 3) := by decide +kernel
theorem dX8_sumFrom_13 : decode cX8_sumFrom 13 = .ok (.iload_n 3, 1) := by decide +kernel
theorem dX8_sumFrom_14 : decode cX8_sumFrom 14 = .ok (.aload_n 0, 1) := by decide +kernel
theorem dX8_sumFrom_15 : decode cX8_sumFrom 15 = .ok (.getfield 9, 3) := by decide +kernel
theorem dX8_sumFrom_18 : decode cX8_sumFrom 18 = .ok (.iload 4, 2) := by decide +kernel
theorem dX8_sumFrom_20 : decode cX8_sumFrom 20 = .ok (.iaload, 1) := by decide +kernel
theorem dX8_sumFrom_21 : decode cX8_sumFrom 21 = .ok (.iadd, 1) := by decide +kernel
theorem dX8_sumFrom_22 : decode cX8_sumFrom 22 = .ok (.istore_n 3, 1) := by decide +kernel
theorem dX8_sumFrom_23 : decode cX8_sumFrom 23 = .ok (.iinc 4 1, 3) := by decide +kernel
theorem dX8_sumFrom_26 : decode cX8_sumFrom 26 = .ok (.goto (-21), 3) := by decide +kernel
theorem dX8_sumFrom_29 : decode cX8_sumFrom 29 = .ok (.iload_n 3, 1) := by decide +kernel
theorem dX8_sumFrom_30 : decode cX8_sumFrom 30 = .ok (.ireturn, 1) := by decide +kernel
theorem dX9_init_0 : decode cX9_init 0 = .ok (.aload_n 0, 1) := by decide +kernel
theorem dX9_init_1 : decode cX9_init 1 = .ok (.invokespecial 1, 3) := by decide +kernel
theorem dX9_init_4 : decode cX9_init 4 = .ok (.return_, 1) := by decide +kernel
theorem dX9_last_0 : decode cX9_last 0 = .ok (.aload_n 1, 1) := by decide +kernel
theorem dX9_last_1 : decode cX9_last 1 = .ok (.bipush 20, 2) := by decide +kernel
theorem dX9_last_3 : decode cX9_last 3 = .ok (.invokevirtual 7, 3) := by decide +kernel
theorem dX9_last_6 : decode cX9_last 6 = .ok (.aload_n 0, 1) := by decide +kernel
theorem dX9_last_7 : decode cX9_last 7 = .ok (.aload_n 1, 1) := by decide +kernel
theorem dX9_last_8 : decode cX9_last 8 = .ok (.iload_n 2, 1) := by decide +kernel
theorem dX9_last_9 : decode cX9_last 9 = .ok (.invokespecial 13, 3) := by decide +kernel
theorem dX9_last_12 : decode cX9_last 12 = .ok (.iconst 2, 1) := by decide +kernel
theorem dX9_last_13 : decode cX9_last 13 = .ok (.imul, 1) := by decide +kernel
theorem dX9_last_14 : decode cX9_last 14 = .ok (.ireturn, 1) := by decide +kernel
theorem dX9_tell_0 : decode cX9_tell 0 = .ok (.aload_n 1, 1) := by decide +kernel
theorem dX9_tell_1 : decode cX9_tell 1 = .ok (.bipush 21, 2) := by decide +kernel
theorem dX9_tell_3 : decode cX9_tell 3 = .ok (.invokevirtual 7, 3) := by decide +kernel
theorem dX9_tell_6 : decode cX9_tell 6 = .ok (.aload_n 0, 1) := by decide +kernel
theorem dX9_tell_7 : decode cX9_tell 7 = .ok (.aload_n 1, 1) := by decide +kernel
theorem dX9_tell_8 : decode cX9_tell 8 = .ok (.iload_n 2, 1) := by decide +kernel
theorem dX9_tell_9 : decode cX9_tell 9 = .ok (.iconst 1, 1) := by decide +kernel
theorem dX9_tell_10 : decode cX9_tell 10 = .ok (.iadd, 1) := by decide +kernel
theorem dX9_tell_11 : decode cX9_tell 11 = .ok (.invokespecial 17, 3) := by decide +kernel
theorem dX9_tell_14 : decode cX9_tell 14 = .ok (.iconst 3, 1) := by decide +kernel
theorem dX9_tell_15 : decode cX9_tell 15 = .ok (.ixor, 1) := by decide +kernel
theorem dX9_tell_16 : decode cX9_tell 16 = .ok (.ireturn, 1) := by decide +kernel
theorem dX10_init_0 : decode cX10_init 0 = .ok (.aload_n 0, 1) := by decide +kernel
theorem dX10_init_1 : decode cX10_init 1 = .ok (.invokespecial 5, 3) := by decide +kernel
theorem dX10_init_4 : decode cX10_init 4 = .ok (.aload_n 0, 1) := by decide +kernel
theorem dX10_init_5 : decode cX10_init 5 = .ok (.iconst 3, 1) := by decide +kernel
theorem dX10_init_6 : decode cX10_init 6 = .ok (.bipush 12, 2) := by decide +kernel
theorem dX10_init_8 : decode cX10_init 8 = .ok (.multianewarray 11 2, 4) := by decide +kernel
theorem dX10_init_12 : decode cX10_init 12 = .ok (.putfield 13, 3) := by decide +kernel
theorem dX10_init_15 : decode cX10_init 15 = .ok (.aload_n 0, 1) := by decide +kernel
theorem dX10_init_16 : decode cX10_init 16 = .ok (.bipush 12, 2) := by decide +kernel
theorem dX10_init_18 : decode cX10_init 18 = .ok (.newarray .int, 2) := by decide +kernel
theorem dX10_init_20 : decode cX10_init 20 = .ok (.putfield 16, 3) := by decide +kernel
theorem dX10_init_23 : decode cX10_init 23 = .ok (.aload_n 0, 1) := by decide +kernel
theorem dX10_init_24 : decode cX10_init 24 = .ok (.bipush 12, 2) := by decide +kernel
theorem dX10_init_26 : decode cX10_init 26 = .ok (.newarray .int, 2) := by decide +kernel
theorem dX10_init_28 : decode cX10_init 28 = .ok (.putfield 20, 3) := by decide +kernel
theorem dX10_init_31 : decode cX10_init 31 = .ok (.aload_n 0, 1) := by decide +kernel
theorem dX10_init_32 : decode cX10_init 32 = .ok (.bipush 12, 2) := by decide +kernel
theorem dX10_init_34 : decode cX10_init 34 = .ok (.newarray .int, 2) := by decide +kernel
theorem dX10_init_36 : decode cX10_init 36 = .ok (.putfield 23, 3) := by decide +kernel
theorem dX10_init_39 : decode cX10_init 39 = .ok (.aload_n 0, 1) := by decide +kernel
theorem dX10_init_40 : decode cX10_init 40 = .ok (.sipush 128, 3) := by decide +kernel
theorem dX10_init_43 : decode cX10_init 43 = .ok (.newarray .int, 2) := by decide +kernel
theorem dX10_init_45 : decode cX10_init 45 = .ok (.putfield 26, 3) := by decide +kernel
theorem dX10_init_48 : decode cX10_init 48 = .ok (.aload_n 0, 1) := by decide +kernel
theorem dX10_init_49 : decode cX10_init 49 = .ok (.sipush 128, 3) := by decide +kernel
theorem dX10_init_52 : decode cX10_init 52 = .ok (.newarray .int, 2) := by decide +kernel
theorem dX10_init_54 : decode cX10_init 54 = .ok (.putfield 29, 3) := by decide +kernel
theorem dX10_init_57 : decode cX10_init 57 = .ok (.aload_n 0, 1) := by decide +kernel
theorem dX10_init_58 : decode cX10_init 58 = .ok (.sipush 128, 3) := by decide +kernel
theorem dX10_init_61 : decode cX10_init 61 = .ok (.newarray .int, 2) := by decide +kernel
theorem dX10_init_63 : decode cX10_init 63 = .ok (.putfield 32, 3) := by decide +kernel
theorem dX10_init_66 : decode cX10_init 66 = .ok (.return_, 1) := by decide +kernel
theorem dX10_allows_0 : decode cX10_allows 0 = .ok (.iload_n 0, 1) := by decide +kernel
theorem dX10_allows_1 : decode cX10_allows 1 = .ok (.ifCond .lt 30, 3) := by decide +kernel
theorem dX10_allows_4 : decode cX10_allows 4 = .ok (.iload_n 0, 1) := by decide +kernel
theorem dX10_allows_5 : decode cX10_allows 5 = .ok (.iconst 2, 1) := by decide +kernel
theorem dX10_allows_6 : decode cX10_allows 6 = .ok (.if_icmp .gt 25, 3) := by decide +kernel
theorem dX10_allows_9 : decode cX10_allows 9 = .ok (.iload_n 1, 1) := by decide +kernel
theorem dX10_allows_10 : decode cX10_allows 10 = .ok (.getstatic 35, 3) := by decide +kernel
theorem dX10_allows_13 : decode cX10_allows 13 = .ok (.iload_n 0, 1) := by decide +kernel
theorem dX10_allows_14 : decode cX10_allows 14 = .ok (.iaload, 1) := by decide +kernel
theorem dX10_allows_15 : decode cX10_allows 15 = .ok (.if_icmp .lt 16, 3) := by decide +kernel
theorem dX10_allows_18 : decode cX10_allows 18 = .ok (.iload_n 1, 1) := by decide +kernel
theorem dX10_allows_19 : decode cX10_allows 19 = .ok (.getstatic 38, 3) := by decide +kernel
theorem dX10_allows_22 : decode cX10_allows 22 = .ok (.iload_n 0, 1) := by decide +kernel
theorem dX10_allows_23 : decode cX10_allows 23 = .ok (.iaload, 1) := by decide +kernel
theorem dX10_allows_24 : decode cX10_allows 24 = .ok (.if_icmp .gt 7, 3) := by decide +kernel
theorem dX10_allows_27 : decode cX10_allows 27 = .ok (.iconst 1, 1) := by decide +kernel
theorem dX10_allows_28 : decode cX10_allows 28 = .ok (.goto 4, 3) := by decide +kernel
theorem dX10_allows_31 : decode cX10_allows 31 = .ok (.iconst 0, 1) := by decide +kernel
theorem dX10_allows_32 : decode cX10_allows 32 = .ok (.ireturn, 1) := by decide +kernel
theorem dX10_jobOfCrossing_0 : decode cX10_jobOfCrossing 0 = .ok (.iload_n 0, 1) := by decide +kernel
theorem dX10_jobOfCrossing_1 : decode cX10_jobOfCrossing 1 = .ok (.iconst 4, 1) := by decide +kernel
theorem dX10_jobOfCrossing_2 : decode cX10_jobOfCrossing 2 = .ok (.iload_n 1, 1) := by decide +kernel
theorem dX10_jobOfCrossing_3 : decode cX10_jobOfCrossing 3 = .ok (.imul, 1) := by decide +kernel
theorem dX10_jobOfCrossing_4 : decode cX10_jobOfCrossing 4 = .ok (.ishr, 1) := by decide +kernel
theorem dX10_jobOfCrossing_5 : decode cX10_jobOfCrossing 5 = .ok (.bipush 15, 2) := by decide +kernel
theorem dX10_jobOfCrossing_7 : decode cX10_jobOfCrossing 7 = .ok (.iand, 1) := by decide +kernel
theorem dX10_jobOfCrossing_8 : decode cX10_jobOfCrossing 8 = .ok (.ireturn, 1) := by decide +kernel
theorem dX10_has_0 : decode cX10_has 0 = .ok (.iload_n 1, 1) := by decide +kernel
theorem dX10_has_1 : decode cX10_has 1 = .ok (.ifCond .lt 15, 3) := by decide +kernel
theorem dX10_has_4 : decode cX10_has 4 = .ok (.iload_n 1, 1) := by decide +kernel
theorem dX10_has_5 : decode cX10_has 5 = .ok (.aload_n 0, 1) := by decide +kernel
theorem dX10_has_6 : decode cX10_has 6 = .ok (.getfield 41, 3) := by decide +kernel
theorem dX10_has_9 : decode cX10_has 9 = .ok (.if_icmp .ge 7, 3) := by decide +kernel
theorem dX10_has_12 : decode cX10_has 12 = .ok (.iconst 1, 1) := by decide +kernel
theorem dX10_has_13 : decode cX10_has 13 = .ok (.goto 4, 3) := by decide +kernel
theorem dX10_has_16 : decode cX10_has 16 = .ok (.iconst 0, 1) := by decide +kernel
theorem dX10_has_17 : decode cX10_has 17 = .ok (.ireturn, 1) := by decide +kernel
theorem dX10_isFull_0 : decode cX10_isFull 0 = .ok (.aload_n 0, 1) := by decide +kernel
theorem dX10_isFull_1 : decode cX10_isFull 1 = .ok (.getfield 41, 3) := by decide +kernel
theorem dX10_isFull_4 : decode cX10_isFull 4 = .ok (.bipush 12, 2) := by decide +kernel
theorem dX10_isFull_6 : decode cX10_isFull 6 = .ok (.if_icmp .lt 7, 3) := by decide +kernel
theorem dX10_isFull_9 : decode cX10_isFull 9 = .ok (.iconst 1, 1) := by decide +kernel
theorem dX10_isFull_10 : decode cX10_isFull 10 = .ok (.goto 4, 3) := by decide +kernel
theorem dX10_isFull_13 : decode cX10_isFull 13 = .ok (.iconst 0, 1) := by decide +kernel
theorem dX10_isFull_14 : decode cX10_isFull 14 = .ok (.ireturn, 1) := by decide +kernel
theorem dX10_jobs_0 : decode cX10_jobs 0 = .ok (.aload_n 0, 1) := by decide +kernel
theorem dX10_jobs_1 : decode cX10_jobs 1 = .ok (.getfield 41, 3) := by decide +kernel
theorem dX10_jobs_4 : decode cX10_jobs 4 = .ok (.ireturn, 1) := by decide +kernel
theorem dX10_laidPairs_0 : decode cX10_laidPairs 0 = .ok (.aload_n 0, 1) := by decide +kernel
theorem dX10_laidPairs_1 : decode cX10_laidPairs 1 = .ok (.getfield 45, 3) := by decide +kernel
theorem dX10_laidPairs_4 : decode cX10_laidPairs 4 = .ok (.ireturn, 1) := by decide +kernel
theorem dX10_version_0 : decode cX10_version 0 = .ok (.aload_n 0, 1) := by decide +kernel
theorem dX10_version_1 : decode cX10_version 1 = .ok (.getfield 48, 3) := by decide +kernel
theorem dX10_version_4 : decode cX10_version 4 = .ok (.ireturn, 1) := by decide +kernel
theorem dX10_everyJob_0 : decode cX10_everyJob 0 = .ok (.iconst 1, 1) := by decide +kernel
theorem dX10_everyJob_1 : decode cX10_everyJob 1 = .ok (.aload_n 0, 1) := by decide +kernel
theorem dX10_everyJob_2 : decode cX10_everyJob 2 = .ok (.getfield 41, 3) := by decide +kernel
theorem dX10_everyJob_5 : decode cX10_everyJob 5 = .ok (.ishl, 1) := by decide +kernel
theorem dX10_everyJob_6 : decode cX10_everyJob 6 = .ok (.iconst 1, 1) := by decide +kernel
theorem dX10_everyJob_7 : decode cX10_everyJob 7 = .ok (.isub, 1) := by decide +kernel
theorem dX10_everyJob_8 : decode cX10_everyJob 8 = .ok (.ireturn, 1) := by decide +kernel
theorem dX10_measure_0 : decode cX10_measure 0 = .ok (.aload_n 0, 1) := by decide +kernel
theorem dX10_measure_1 : decode cX10_measure 1 = .ok (.getfield 13, 3) := by decide +kernel
theorem dX10_measure_4 : decode cX10_measure 4 = .ok (.iload_n 2, 1) := by decide +kernel
theorem dX10_measure_5 : decode cX10_measure 5 = .ok (.aaload, 1) := by decide +kernel
theorem dX10_measure_6 : decode cX10_measure 6 = .ok (.iload_n 1, 1) := by decide +kernel
theorem dX10_measure_7 : decode cX10_measure 7 = .ok (.iaload, 1) := by decide +kernel
theorem dX10_measure_8 : decode cX10_measure 8 = .ok (.ireturn, 1) := by decide +kernel
theorem dX10_aheadOf_0 : decode cX10_aheadOf 0 = .ok (.aload_n 0, 1) := by decide +kernel
theorem dX10_aheadOf_1 : decode cX10_aheadOf 1 = .ok (.getfield 20, 3) := by decide +kernel
theorem dX10_aheadOf_4 : decode cX10_aheadOf 4 = .ok (.iload_n 1, 1) := by decide +kernel
theorem dX10_aheadOf_5 : decode cX10_aheadOf 5 = .ok (.iaload, 1) := by decide +kernel
theorem dX10_aheadOf_6 : decode cX10_aheadOf 6 = .ok (.ireturn, 1) := by decide +kernel
theorem dX10_behind_0 : decode cX10_behind 0 = .ok (.aload_n 0, 1) := by decide +kernel
theorem dX10_behind_1 : decode cX10_behind 1 = .ok (.getfield 23, 3) := by decide +kernel
theorem dX10_behind_4 : decode cX10_behind 4 = .ok (.iload_n 1, 1) := by decide +kernel
theorem dX10_behind_5 : decode cX10_behind 5 = .ok (.iaload, 1) := by decide +kernel
theorem dX10_behind_6 : decode cX10_behind 6 = .ok (.ireturn, 1) := by decide +kernel
theorem dX10_isLaid_0 : decode cX10_isLaid 0 = .ok (.aload_n 0, 1) := by decide +kernel
theorem dX10_isLaid_1 : decode cX10_isLaid 1 = .ok (.getfield 16, 3) := by decide +kernel
theorem dX10_isLaid_4 : decode cX10_isLaid 4 = .ok (.iload_n 1, 1) := by decide +kernel
theorem dX10_isLaid_5 : decode cX10_isLaid 5 = .ok (.iaload, 1) := by decide +kernel
theorem dX10_isLaid_6 : decode cX10_isLaid 6 = .ok (.iload_n 2, 1) := by decide +kernel
theorem dX10_isLaid_7 : decode cX10_isLaid 7 = .ok (.invokestatic 51, 3) := by decide +kernel
theorem dX10_isLaid_10 : decode cX10_isLaid 10 = .ok (.ireturn, 1) := by decide +kernel
theorem dX10_isAhead_0 : decode cX10_isAhead 0 = .ok (.aload_n 0, 1) := by decide +kernel
theorem dX10_isAhead_1 : decode cX10_isAhead 1 = .ok (.getfield 23, 3) := by decide +kernel
theorem dX10_isAhead_4 : decode cX10_isAhead 4 = .ok (.iload_n 1, 1) := by decide +kernel
theorem dX10_isAhead_5 : decode cX10_isAhead 5 = .ok (.iaload, 1) := by decide +kernel
theorem dX10_isAhead_6 : decode cX10_isAhead 6 = .ok (.iload_n 2, 1) := by decide +kernel
theorem dX10_isAhead_7 : decode cX10_isAhead 7 = .ok (.invokestatic 51, 3) := by decide +kernel
theorem dX10_isAhead_10 : decode cX10_isAhead 10 = .ok (.ireturn, 1) := by decide +kernel
theorem dX10_add_0 : decode cX10_add 0 = .ok (.aload_n 0, 1) := by decide +kernel
theorem dX10_add_1 : decode cX10_add 1 = .ok (.getfield 41, 3) := by decide +kernel
theorem dX10_add_4 : decode cX10_add 4 = .ok (.istore_n 3, 1) := by decide +kernel
theorem dX10_add_5 : decode cX10_add 5 = .ok (.aload_n 0, 1) := by decide +kernel
theorem dX10_add_6 : decode cX10_add 6 = .ok (.getfield 13, 3) := by decide +kernel
theorem dX10_add_9 : decode cX10_add 9 = .ok (.iconst 0, 1) := by decide +kernel
theorem dX10_add_10 : decode cX10_add 10 = .ok (.aaload, 1) := by decide +kernel
theorem dX10_add_11 : decode cX10_add 11 = .ok (.iload_n 3, 1) := by decide +kernel
theorem dX10_add_12 : decode cX10_add 12 = .ok (.iload_n 1, 1) := by decide +kernel
theorem dX10_add_13 : decode cX10_add 13 = .ok (.iastore, 1) := by decide +kernel
theorem dX10_add_14 : decode cX10_add 14 = .ok (.aload_n 0, 1) := by decide +kernel
theorem dX10_add_15 : decode cX10_add 15 = .ok (.getfield 13, 3) := by decide +kernel
theorem dX10_add_18 : decode cX10_add 18 = .ok (.iconst 1, 1) := by decide +kernel
theorem dX10_add_19 : decode cX10_add 19 = .ok (.aaload, 1) := by decide +kernel
theorem dX10_add_20 : decode cX10_add 20 = .ok (.iload_n 3, 1) := by decide +kernel
theorem dX10_add_21 : decode cX10_add 21 = .ok (.iload_n 2, 1) := by decide +kernel
theorem dX10_add_22 : decode cX10_add 22 = .ok (.iastore, 1) := by decide +kernel
theorem dX10_add_23 : decode cX10_add 23 = .ok (.aload_n 0, 1) := by decide +kernel
theorem dX10_add_24 : decode cX10_add 24 = .ok (.getfield 13, 3) := by decide +kernel
theorem dX10_add_27 : decode cX10_add 27 = .ok (.iconst 2, 1) := by decide +kernel
theorem dX10_add_28 : decode cX10_add 28 = .ok (.aaload, 1) := by decide +kernel
theorem dX10_add_29 : decode cX10_add 29 = .ok (.iload_n 3, 1) := by decide +kernel
theorem dX10_add_30 : decode cX10_add 30 = .ok (.iconst 0, 1) := by decide +kernel
theorem dX10_add_31 : decode cX10_add 31 = .ok (.iastore, 1) := by decide +kernel
theorem dX10_add_32 : decode cX10_add 32 = .ok (.aload_n 0, 1) := by decide +kernel
theorem dX10_add_33 : decode cX10_add 33 = .ok (.dup, 1) := by decide +kernel
theorem dX10_add_34 : decode cX10_add 34 = .ok (.getfield 41, 3) := by decide +kernel
theorem dX10_add_37 : decode cX10_add 37 = .ok (.iconst 1, 1) := by decide +kernel
theorem dX10_add_38 : decode cX10_add 38 = .ok (.iadd, 1) := by decide +kernel
theorem dX10_add_39 : decode cX10_add 39 = .ok (.putfield 41, 3) := by decide +kernel
theorem dX10_add_42 : decode cX10_add 42 = .ok (.aload_n 0, 1) := by decide +kernel
theorem dX10_add_43 : decode cX10_add 43 = .ok (.invokevirtual 55, 3) := by decide +kernel
theorem dX10_add_46 : decode cX10_add 46 = .ok (.iload_n 3, 1) := by decide +kernel
theorem dX10_add_47 : decode cX10_add 47 = .ok (.ireturn, 1) := by decide +kernel
theorem dX10_removeLast_0 : decode cX10_removeLast 0 = .ok (.aload_n 0, 1) := by decide +kernel
theorem dX10_removeLast_1 : decode cX10_removeLast 1 = .ok (.getfield 41, 3) := by decide +kernel
theorem dX10_removeLast_4 : decode cX10_removeLast 4 = .ok (.ifCond .le 13, 3) := by decide +kernel
theorem dX10_removeLast_7 : decode cX10_removeLast 7 = .ok (.aload_n 0, 1) := by decide +kernel
theorem dX10_removeLast_8 : decode cX10_removeLast 8 = .ok (.dup, 1) := by decide +kernel
theorem dX10_removeLast_9 : decode cX10_removeLast 9 = .ok (.getfield 41, 3) := by decide +kernel
theorem dX10_removeLast_12 : decode cX10_removeLast 12 = .ok (.iconst 1, 1) := by decide +kernel
theorem dX10_removeLast_13 : decode cX10_removeLast 13 = .ok (.isub, 1) := by decide +kernel
theorem dX10_removeLast_14 : decode cX10_removeLast 14 = .ok (.putfield 41, 3) := by decide +kernel
theorem dX10_removeLast_17 : decode cX10_removeLast 17 = .ok (.aload_n 0, 1) := by decide +kernel
theorem dX10_removeLast_18 : decode cX10_removeLast 18 = .ok (.invokevirtual 55, 3) := by decide +kernel
theorem dX10_removeLast_21 : decode cX10_removeLast 21 = .ok (.return_, 1) := by decide +kernel
theorem dX10_measureAnew_0 : decode cX10_measureAnew 0 = .ok (.aload_n 0, 1) := by decide +kernel
theorem dX10_measureAnew_1 : decode cX10_measureAnew 1 = .ok (.getfield 13, 3) := by decide +kernel
theorem dX10_measureAnew_4 : decode cX10_measureAnew 4 = .ok (.iload_n 2, 1) := by decide +kernel
theorem dX10_measureAnew_5 : decode cX10_measureAnew 5 = .ok (.aaload, 1) := by decide +kernel
theorem dX10_measureAnew_6 : decode cX10_measureAnew 6 = .ok (.iload_n 1, 1) := by decide +kernel
theorem dX10_measureAnew_7 : decode cX10_measureAnew 7 = .ok (.iload_n 3, 1) := by decide +kernel
theorem dX10_measureAnew_8 : decode cX10_measureAnew 8 = .ok (.iastore, 1) := by decide +kernel
theorem dX10_measureAnew_9 : decode cX10_measureAnew 9 = .ok (.iload_n 2, 1) := by decide +kernel
theorem dX10_measureAnew_10 : decode cX10_measureAnew 10 = .ok (.iconst 2, 1) := by decide +kernel
theorem dX10_measureAnew_11 : decode cX10_measureAnew 11 = .ok (.if_icmp .eq 7, 3) := by decide +kernel
theorem dX10_measureAnew_14 : decode cX10_measureAnew 14 = .ok (.aload_n 0, 1) := by decide +kernel
theorem dX10_measureAnew_15 : decode cX10_measureAnew 15 = .ok (.invokevirtual 55, 3) := by decide +kernel
theorem dX10_measureAnew_18 : decode cX10_measureAnew 18 = .ok (.return_, 1) := by decide +kernel
theorem dX10_bind_0 : decode cX10_bind 0 = .ok (.aload_n 0, 1) := by decide +kernel
theorem dX10_bind_1 : decode cX10_bind 1 = .ok (.getfield 16, 3) := by decide +kernel
theorem dX10_bind_4 : decode cX10_bind 4 = .ok (.iload_n 1, 1) := by decide +kernel
theorem dX10_bind_5 : decode cX10_bind 5 = .ok (.dup2, 1) := by decide +kernel
theorem dX10_bind_6 : decode cX10_bind 6 = .ok (.iaload, 1) := by decide +kernel
theorem dX10_bind_7 : decode cX10_bind 7 = .ok (.iconst 1, 1) := by decide +kernel
theorem dX10_bind_8 : decode cX10_bind 8 = .ok (.iload_n 2, 1) := by decide +kernel
theorem dX10_bind_9 : decode cX10_bind 9 = .ok (.ishl, 1) := by decide +kernel
theorem dX10_bind_10 : decode cX10_bind 10 = .ok (.ior, 1) := by decide +kernel
theorem dX10_bind_11 : decode cX10_bind 11 = .ok (.iastore, 1) := by decide +kernel
theorem dX10_bind_12 : decode cX10_bind 12 = .ok (.aload_n 0, 1) := by decide +kernel
theorem dX10_bind_13 : decode cX10_bind 13 = .ok (.dup, 1) := by decide +kernel
theorem dX10_bind_14 : decode cX10_bind 14 = .ok (.getfield 45, 3) := by decide +kernel
theorem dX10_bind_17 : decode cX10_bind 17 = .ok (.iconst 1, 1) := by decide +kernel
theorem dX10_bind_18 : decode cX10_bind 18 = .ok (.iadd, 1) := by decide +kernel
theorem dX10_bind_19 : decode cX10_bind 19 = .ok (.putfield 45, 3) := by decide +kernel
theorem dX10_bind_22 : decode cX10_bind 22 = .ok (.aload_n 0, 1) := by decide +kernel
theorem dX10_bind_23 : decode cX10_bind 23 = .ok (.invokevirtual 55, 3) := by decide +kernel
theorem dX10_bind_26 : decode cX10_bind 26 = .ok (.return_, 1) := by decide +kernel
theorem dX10_unbind_0 : decode cX10_unbind 0 = .ok (.aload_n 0, 1) := by decide +kernel
theorem dX10_unbind_1 : decode cX10_unbind 1 = .ok (.getfield 16, 3) := by decide +kernel
theorem dX10_unbind_4 : decode cX10_unbind 4 = .ok (.iload_n 1, 1) := by decide +kernel
theorem dX10_unbind_5 : decode cX10_unbind 5 = .ok (.dup2, 1) := by decide +kernel
theorem dX10_unbind_6 : decode cX10_unbind 6 = .ok (.iaload, 1) := by decide +kernel
theorem dX10_unbind_7 : decode cX10_unbind 7 = .ok (.iconst 1, 1) := by decide +kernel
theorem dX10_unbind_8 : decode cX10_unbind 8 = .ok (.iload_n 2, 1) := by decide +kernel
theorem dX10_unbind_9 : decode cX10_unbind 9 = .ok (.ishl, 1) := by decide +kernel
theorem dX10_unbind_10 : decode cX10_unbind 10 = .ok (.iconst (-1), 1) := by decide +kernel
theorem dX10_unbind_11 : decode cX10_unbind 11 = .ok (.ixor, 1) := by decide +kernel
theorem dX10_unbind_12 : decode cX10_unbind 12 = .ok (.iand, 1) := by decide +kernel
theorem dX10_unbind_13 : decode cX10_unbind 13 = .ok (.iastore, 1) := by decide +kernel
theorem dX10_unbind_14 : decode cX10_unbind 14 = .ok (.aload_n 0, 1) := by decide +kernel
theorem dX10_unbind_15 : decode cX10_unbind 15 = .ok (.dup, 1) := by decide +kernel
theorem dX10_unbind_16 : decode cX10_unbind 16 = .ok (.getfield 45, 3) := by decide +kernel
theorem dX10_unbind_19 : decode cX10_unbind 19 = .ok (.iconst 1, 1) := by decide +kernel
theorem dX10_unbind_20 : decode cX10_unbind 20 = .ok (.isub, 1) := by decide +kernel
theorem dX10_unbind_21 : decode cX10_unbind 21 = .ok (.putfield 45, 3) := by decide +kernel
theorem dX10_unbind_24 : decode cX10_unbind 24 = .ok (.aload_n 0, 1) := by decide +kernel
theorem dX10_unbind_25 : decode cX10_unbind 25 = .ok (.invokevirtual 55, 3) := by decide +kernel
theorem dX10_unbind_28 : decode cX10_unbind 28 = .ok (.return_, 1) := by decide +kernel
theorem dX10_kindOf_0 : decode cX10_kindOf 0 = .ok (.aload_n 0, 1) := by decide +kernel
theorem dX10_kindOf_1 : decode cX10_kindOf 1 = .ok (.getfield 13, 3) := by decide +kernel
theorem dX10_kindOf_4 : decode cX10_kindOf 4 = .ok (.iconst 2, 1) := by decide +kernel
theorem dX10_kindOf_5 : decode cX10_kindOf 5 = .ok (.aaload, 1) := by decide +kernel
theorem dX10_kindOf_6 : decode cX10_kindOf 6 = .ok (.iload_n 1, 1) := by decide +kernel
theorem dX10_kindOf_7 : decode cX10_kindOf 7 = .ok (.iaload, 1) := by decide +kernel
theorem dX10_kindOf_8 : decode cX10_kindOf 8 = .ok (.ifCond .le 5, 3) := by decide +kernel
theorem dX10_kindOf_11 : decode cX10_kindOf 11 = .ok (.iconst 4, 1) := by decide +kernel
theorem dX10_kindOf_12 : decode cX10_kindOf 12 = .ok (.ireturn, 1) := by decide +kernel
theorem dX10_kindOf_13 : decode cX10_kindOf 13 = .ok (.aload_n 0, 1) := by decide +kernel
theorem dX10_kindOf_14 : decode cX10_kindOf 14 = .ok (.getfield 13, 3) := by decide +kernel
theorem dX10_kindOf_17 : decode cX10_kindOf 17 = .ok (.iconst 0, 1) := by decide +kernel
theorem dX10_kindOf_18 : decode cX10_kindOf 18 = .ok (.aaload, 1) := by decide +kernel
theorem dX10_kindOf_19 : decode cX10_kindOf 19 = .ok (.iload_n 1, 1) := by decide +kernel
theorem dX10_kindOf_20 : decode cX10_kindOf 20 = .ok (.iaload, 1) := by decide +kernel
theorem dX10_kindOf_21 : decode cX10_kindOf 21 = .ok (.iconst 1, 1) := by decide +kernel
theorem dX10_kindOf_22 : decode cX10_kindOf 22 = .ok (.if_icmp .ne 18, 3) := by decide +kernel
theorem dX10_kindOf_25 : decode cX10_kindOf 25 = .ok (.aload_n 0, 1) := by decide +kernel
theorem dX10_kindOf_26 : decode cX10_kindOf 26 = .ok (.getfield 20, 3) := by decide +kernel
theorem dX10_kindOf_29 : decode cX10_kindOf 29 = .ok (.iload_n 1, 1) := by decide +kernel
theorem dX10_kindOf_30 : decode cX10_kindOf 30 = .ok (.iaload, 1) := by decide +kernel
theorem dX10_kindOf_31 : decode cX10_kindOf 31 = .ok (.ifCond .ne 7, 3) := by decide +kernel
theorem dX10_kindOf_34 : decode cX10_kindOf 34 = .ok (.iconst 3, 1) := by decide +kernel
theorem dX10_kindOf_35 : decode cX10_kindOf 35 = .ok (.goto 4, 3) := by decide +kernel
theorem dX10_kindOf_38 : decode cX10_kindOf 38 = .ok (.iconst 1, 1) := by decide +kernel
theorem dX10_kindOf_39 : decode cX10_kindOf 39 = .ok (.ireturn, 1) := by decide +kernel
theorem dX10_kindOf_40 : decode cX10_kindOf 40 = .ok (.aload_n 0, 1) := by decide +kernel
theorem dX10_kindOf_41 : decode cX10_kindOf 41 = .ok (.getfield 13, 3) := by decide +kernel
theorem dX10_kindOf_44 : decode cX10_kindOf 44 = .ok (.iconst 1, 1) := by decide +kernel
theorem dX10_kindOf_45 : decode cX10_kindOf 45 = .ok (.aaload, 1) := by decide +kernel
theorem dX10_kindOf_46 : decode cX10_kindOf 46 = .ok (.iload_n 1, 1) := by decide +kernel
theorem dX10_kindOf_47 : decode cX10_kindOf 47 = .ok (.iaload, 1) := by decide +kernel
theorem dX10_kindOf_48 : decode cX10_kindOf 48 = .ok (.ifCond .ne 7, 3) := by decide +kernel
theorem dX10_kindOf_51 : decode cX10_kindOf 51 = .ok (.iconst 2, 1) := by decide +kernel
theorem dX10_kindOf_52 : decode cX10_kindOf 52 = .ok (.goto 4, 3) := by decide +kernel
theorem dX10_kindOf_55 : decode cX10_kindOf 55 = .ok (.iconst 0, 1) := by decide +kernel
theorem dX10_kindOf_56 : decode cX10_kindOf 56 = .ok (.ireturn, 1) := by decide +kernel
theorem dX10_lengthOf_0 : decode cX10_lengthOf 0 = .ok (.aload_n 0, 1) := by decide +kernel
theorem dX10_lengthOf_1 : decode cX10_lengthOf 1 = .ok (.getfield 26, 3) := by decide +kernel
theorem dX10_lengthOf_4 : decode cX10_lengthOf 4 = .ok (.iload_n 1, 1) := by decide +kernel
theorem dX10_lengthOf_5 : decode cX10_lengthOf 5 = .ok (.bipush 63, 2) := by decide +kernel
theorem dX10_lengthOf_7 : decode cX10_lengthOf 7 = .ok (.iand, 1) := by decide +kernel
theorem dX10_lengthOf_8 : decode cX10_lengthOf 8 = .ok (.iaload, 1) := by decide +kernel
theorem dX10_lengthOf_9 : decode cX10_lengthOf 9 = .ok (.aload_n 0, 1) := by decide +kernel
theorem dX10_lengthOf_10 : decode cX10_lengthOf 10 = .ok (.getfield 26, 3) := by decide +kernel
theorem dX10_lengthOf_13 : decode cX10_lengthOf 13 = .ok (.bipush 64, 2) := by decide +kernel
theorem dX10_lengthOf_15 : decode cX10_lengthOf 15 = .ok (.iload_n 1, 1) := by decide +kernel
theorem dX10_lengthOf_16 : decode cX10_lengthOf 16 = .ok (.bipush 6, 2) := by decide +kernel
theorem dX10_lengthOf_18 : decode cX10_lengthOf 18 = .ok (.ishr, 1) := by decide +kernel
theorem dX10_lengthOf_19 : decode cX10_lengthOf 19 = .ok (.iadd, 1) := by decide +kernel
theorem dX10_lengthOf_20 : decode cX10_lengthOf 20 = .ok (.iaload, 1) := by decide +kernel
theorem dX10_lengthOf_21 : decode cX10_lengthOf 21 = .ok (.iadd, 1) := by decide +kernel
theorem dX10_lengthOf_22 : decode cX10_lengthOf 22 = .ok (.ireturn, 1) := by decide +kernel
theorem dX10_weightOf_0 : decode cX10_weightOf 0 = .ok (.aload_n 0, 1) := by decide +kernel
theorem dX10_weightOf_1 : decode cX10_weightOf 1 = .ok (.getfield 29, 3) := by decide +kernel
theorem dX10_weightOf_4 : decode cX10_weightOf 4 = .ok (.iload_n 1, 1) := by decide +kernel
theorem dX10_weightOf_5 : decode cX10_weightOf 5 = .ok (.bipush 63, 2) := by decide +kernel
theorem dX10_weightOf_7 : decode cX10_weightOf 7 = .ok (.iand, 1) := by decide +kernel
theorem dX10_weightOf_8 : decode cX10_weightOf 8 = .ok (.iaload, 1) := by decide +kernel
theorem dX10_weightOf_9 : decode cX10_weightOf 9 = .ok (.aload_n 0, 1) := by decide +kernel
theorem dX10_weightOf_10 : decode cX10_weightOf 10 = .ok (.getfield 29, 3) := by decide +kernel
theorem dX10_weightOf_13 : decode cX10_weightOf 13 = .ok (.bipush 64, 2) := by decide +kernel
theorem dX10_weightOf_15 : decode cX10_weightOf 15 = .ok (.iload_n 1, 1) := by decide +kernel
theorem dX10_weightOf_16 : decode cX10_weightOf 16 = .ok (.bipush 6, 2) := by decide +kernel
theorem dX10_weightOf_18 : decode cX10_weightOf 18 = .ok (.ishr, 1) := by decide +kernel
theorem dX10_weightOf_19 : decode cX10_weightOf 19 = .ok (.iadd, 1) := by decide +kernel
theorem dX10_weightOf_20 : decode cX10_weightOf 20 = .ok (.iaload, 1) := by decide +kernel
theorem dX10_weightOf_21 : decode cX10_weightOf 21 = .ok (.iadd, 1) := by decide +kernel
theorem dX10_weightOf_22 : decode cX10_weightOf 22 = .ok (.ireturn, 1) := by decide +kernel
theorem dX10_isBeginning_0 : decode cX10_isBeginning 0 = .ok (.aload_n 0, 1) := by decide +kernel
theorem dX10_isBeginning_1 : decode cX10_isBeginning 1 = .ok (.getfield 32, 3) := by decide +kernel
theorem dX10_isBeginning_4 : decode cX10_isBeginning 4 = .ok (.iload_n 1, 1) := by decide +kernel
theorem dX10_isBeginning_5 : decode cX10_isBeginning 5 = .ok (.bipush 63, 2) := by decide +kernel
theorem dX10_isBeginning_7 : decode cX10_isBeginning 7 = .ok (.iand, 1) := by decide +kernel
theorem dX10_isBeginning_8 : decode cX10_isBeginning 8 = .ok (.iaload, 1) := by decide +kernel
theorem dX10_isBeginning_9 : decode cX10_isBeginning 9 = .ok (.aload_n 0, 1) := by decide +kernel
theorem dX10_isBeginning_10 : decode cX10_isBeginning 10 = .ok (.getfield 32, 3) := by decide +kernel
theorem dX10_isBeginning_13 : decode cX10_isBeginning 13 = .ok (.bipush 64, 2) := by decide +kernel
theorem dX10_isBeginning_15 : decode cX10_isBeginning 15 = .ok (.iload_n 1, 1) := by decide +kernel
theorem dX10_isBeginning_16 : decode cX10_isBeginning 16 = .ok (.bipush 6, 2) := by decide +kernel
theorem dX10_isBeginning_18 : decode cX10_isBeginning 18 = .ok (.ishr, 1) := by decide +kernel
theorem dX10_isBeginning_19 : decode cX10_isBeginning 19 = .ok (.iadd, 1) := by decide +kernel
theorem dX10_isBeginning_20 : decode cX10_isBeginning 20 = .ok (.iaload, 1) := by decide +kernel
theorem dX10_isBeginning_21 : decode cX10_isBeginning 21 = .ok (.ior, 1) := by decide +kernel
theorem dX10_isBeginning_22 : decode cX10_isBeginning 22 = .ok (.istore_n 3, 1) := by decide +kernel
theorem dX10_isBeginning_23 : decode cX10_isBeginning 23 = .ok (.iload_n 3, 1) := by decide +kernel
theorem dX10_isBeginning_24 : decode cX10_isBeginning 24 = .ok (.iload_n 1, 1) := by decide +kernel
theorem dX10_isBeginning_25 : decode cX10_isBeginning 25 = .ok (.iconst (-1), 1) := by decide +kernel
theorem dX10_isBeginning_26 : decode cX10_isBeginning 26 = .ok (.ixor, 1) := by decide +kernel
theorem dX10_isBeginning_27 : decode cX10_isBeginning 27 = .ok (.iand, 1) := by decide +kernel
theorem dX10_isBeginning_28 : decode cX10_isBeginning 28 = .ok (.iload_n 2, 1) := by decide +kernel
theorem dX10_isBeginning_29 : decode cX10_isBeginning 29 = .ok (.iconst (-1), 1) := by decide +kernel
theorem dX10_isBeginning_30 : decode cX10_isBeginning 30 = .ok (.ixor, 1) := by decide +kernel
theorem dX10_isBeginning_31 : decode cX10_isBeginning 31 = .ok (.iand, 1) := by decide +kernel
theorem dX10_isBeginning_32 : decode cX10_isBeginning 32 = .ok (.ifCond .ne 7, 3) := by decide +kernel
theorem dX10_isBeginning_35 : decode cX10_isBeginning 35 = .ok (.iconst 1, 1) := by decide +kernel
theorem dX10_isBeginning_36 : decode cX10_isBeginning 36 = .ok (.goto 4, 3) := by decide +kernel
theorem dX10_isBeginning_39 : decode cX10_isBeginning 39 = .ok (.iconst 0, 1) := by decide +kernel
theorem dX10_isBeginning_40 : decode cX10_isBeginning 40 = .ok (.ireturn, 1) := by decide +kernel
theorem dX10_mayComeNext_0 : decode cX10_mayComeNext 0 = .ok (.iload_n 1, 1) := by decide +kernel
theorem dX10_mayComeNext_1 : decode cX10_mayComeNext 1 = .ok (.iload_n 2, 1) := by decide +kernel
theorem dX10_mayComeNext_2 : decode cX10_mayComeNext 2 = .ok (.ishr, 1) := by decide +kernel
theorem dX10_mayComeNext_3 : decode cX10_mayComeNext 3 = .ok (.iconst 1, 1) := by decide +kernel
theorem dX10_mayComeNext_4 : decode cX10_mayComeNext 4 = .ok (.iand, 1) := by decide +kernel
theorem dX10_mayComeNext_5 : decode cX10_mayComeNext 5 = .ok (.ifCond .ne 20, 3) := by decide +kernel
theorem dX10_mayComeNext_8 : decode cX10_mayComeNext 8 = .ok (.aload_n 0, 1) := by decide +kernel
theorem dX10_mayComeNext_9 : decode cX10_mayComeNext 9 = .ok (.getfield 20, 3) := by decide +kernel
theorem dX10_mayComeNext_12 : decode cX10_mayComeNext 12 = .ok (.iload_n 2, 1) := by decide +kernel
theorem dX10_mayComeNext_13 : decode cX10_mayComeNext 13 = .ok (.iaload, 1) := by decide +kernel
theorem dX10_mayComeNext_14 : decode cX10_mayComeNext 14 = .ok (.iload_n 1, 1) := by decide +kernel
theorem dX10_mayComeNext_15 : decode cX10_mayComeNext 15 = .ok (.iconst (-1), 1) := by decide +kernel
theorem dX10_mayComeNext_16 : decode cX10_mayComeNext 16 = .ok (.ixor, 1) := by decide +kernel
theorem dX10_mayComeNext_17 : decode cX10_mayComeNext 17 = .ok (.iand, 1) := by decide +kernel
theorem dX10_mayComeNext_18 : decode cX10_mayComeNext 18 = .ok (.ifCond .ne 7, 3) := by decide +kernel
theorem dX10_mayComeNext_21 : decode cX10_mayComeNext 21 = .ok (.iconst 1, 1) := by decide +kernel
theorem dX10_mayComeNext_22 : decode cX10_mayComeNext 22 = .ok (.goto 4, 3) := by decide +kernel
theorem dX10_mayComeNext_25 : decode cX10_mayComeNext 25 = .ok (.iconst 0, 1) := by decide +kernel
theorem dX10_mayComeNext_26 : decode cX10_mayComeNext 26 = .ok (.ireturn, 1) := by decide +kernel
theorem dX10_costNext_0 : decode cX10_costNext 0 = .ok (.aload_n 0, 1) := by decide +kernel
theorem dX10_costNext_1 : decode cX10_costNext 1 = .ok (.getfield 13, 3) := by decide +kernel
theorem dX10_costNext_4 : decode cX10_costNext 4 = .ok (.iconst 1, 1) := by decide +kernel
theorem dX10_costNext_5 : decode cX10_costNext 5 = .ok (.aaload, 1) := by decide +kernel
theorem dX10_costNext_6 : decode cX10_costNext 6 = .ok (.iload_n 2, 1) := by decide +kernel
theorem dX10_costNext_7 : decode cX10_costNext 7 = .ok (.iaload, 1) := by decide +kernel
theorem dX10_costNext_8 : decode cX10_costNext 8 = .ok (.iload_n 1, 1) := by decide +kernel
theorem dX10_costNext_9 : decode cX10_costNext 9 = .ok (.aload_n 0, 1) := by decide +kernel
theorem dX10_costNext_10 : decode cX10_costNext 10 = .ok (.getfield 13, 3) := by decide +kernel
theorem dX10_costNext_13 : decode cX10_costNext 13 = .ok (.iconst 0, 1) := by decide +kernel
theorem dX10_costNext_14 : decode cX10_costNext 14 = .ok (.aaload, 1) := by decide +kernel
theorem dX10_costNext_15 : decode cX10_costNext 15 = .ok (.iload_n 2, 1) := by decide +kernel
theorem dX10_costNext_16 : decode cX10_costNext 16 = .ok (.iaload, 1) := by decide +kernel
theorem dX10_costNext_17 : decode cX10_costNext 17 = .ok (.iadd, 1) := by decide +kernel
theorem dX10_costNext_18 : decode cX10_costNext 18 = .ok (.imul, 1) := by decide +kernel
theorem dX10_costNext_19 : decode cX10_costNext 19 = .ok (.ireturn, 1) := by decide +kernel
theorem dX10_beginnings_0 : decode cX10_beginnings 0 = .ok (.iconst 0, 1) := by decide +kernel
theorem dX10_beginnings_1 : decode cX10_beginnings 1 = .ok (.istore_n 1, 1) := by decide +kernel
theorem dX10_beginnings_2 : decode cX10_beginnings 2 = .ok (.aload_n 0, 1) := by decide +kernel
theorem dX10_beginnings_3 : decode cX10_beginnings 3 = .ok (.invokevirtual 58, 3) := by decide +kernel
theorem dX10_beginnings_6 : decode cX10_beginnings 6 = .ok (.istore_n 2, 1) := by decide +kernel
theorem dX10_beginnings_7 : decode cX10_beginnings 7 = .ok (.iconst 0, 1) := by decide +kernel
theorem dX10_beginnings_8 : decode cX10_beginnings 8 = .ok (.istore_n 3, 1) := by decide +kernel
theorem dX10_beginnings_9 : decode cX10_beginnings 9 = .ok (.iload_n 3, 1) := by decide +kernel
theorem dX10_beginnings_10 : decode cX10_beginnings 10 = .ok (.iload_n 2, 1) := by decide +kernel
theorem dX10_beginnings_11 : decode cX10_beginnings 11 = .ok (.if_icmp .gt 21, 3) := by decide +kernel
theorem dX10_beginnings_14 : decode cX10_beginnings 14 = .ok (.aload_n 0, 1) := by decide +kernel
theorem dX10_beginnings_15 : decode cX10_beginnings 15 = .ok (.iload_n 3, 1) := by decide +kernel
theorem dX10_beginnings_16 : decode cX10_beginnings 16 = .ok (.iconst 0, 1) := by decide +kernel
theorem dX10_beginnings_17 : decode cX10_beginnings 17 = .ok (.invokevirtual 62, 3) := by decide +kernel
theorem dX10_beginnings_20 : decode cX10_beginnings 20 = .ok (.ifCond .eq 6, 3) := by decide +kernel
theorem dX10_beginnings_23 : decode cX10_beginnings 23 = .ok (.iinc 1 1, 3) := by decide +kernel
theorem dX10_beginnings_26 : decode cX10_beginnings 26 = .ok (.iinc 3 1, 3) := by decide +kernel
theorem dX10_beginnings_29 : decode cX10_beginnings 29 = .ok (.goto (-20), 3) := by decide +kernel
theorem dX10_beginnings_32 : decode cX10_beginnings 32 = .ok (.iload_n 1, 1) := by decide +kernel
theorem dX10_beginnings_33 : decode cX10_beginnings 33 = .ok (.ireturn, 1) := by decide +kernel
theorem dX10_findCrossing_0 : decode cX10_findCrossing 0 = .ok (.iconst 0, 1) := by decide +kernel
theorem dX10_findCrossing_1 : decode cX10_findCrossing 1 = .ok (.istore_n 1, 1) := by decide +kernel
theorem dX10_findCrossing_2 : decode cX10_findCrossing 2 = .ok (.iload_n 1, 1) := by decide +kernel
theorem dX10_findCrossing_3 : decode cX10_findCrossing 3 = .ok (.aload_n 0, 1) := by decide +kernel
theorem dX10_findCrossing_4 : decode cX10_findCrossing 4 = .ok (.getfield 41, 3) := by decide +kernel
theorem dX10_findCrossing_7 : decode cX10_findCrossing 7 = .ok (.if_icmp .ge 64, 3) := by decide +kernel
theorem dX10_findCrossing_10 : decode cX10_findCrossing 10 = .ok (.iconst 0, 1) := by decide +kernel
theorem dX10_findCrossing_11 : decode cX10_findCrossing 11 = .ok (.istore_n 2, 1) := by decide +kernel
theorem dX10_findCrossing_12 : decode cX10_findCrossing 12 = .ok (.iload_n 2, 1) := by decide +kernel
theorem dX10_findCrossing_13 : decode cX10_findCrossing 13 = .ok (.aload_n 0, 1) := by decide +kernel
theorem dX10_findCrossing_14 : decode cX10_findCrossing 14 = .ok (.getfield 41, 3) := by decide +kernel
theorem dX10_findCrossing_17 : decode cX10_findCrossing 17 = .ok (.if_icmp .ge 48, 3) := by decide +kernel
theorem dX10_findCrossing_20 : decode cX10_findCrossing 20 = .ok (.aload_n 0, 1) := by decide +kernel
theorem dX10_findCrossing_21 : decode cX10_findCrossing 21 = .ok (.iload_n 1, 1) := by decide +kernel
theorem dX10_findCrossing_22 : decode cX10_findCrossing 22 = .ok (.invokevirtual 65, 3) := by decide +kernel
theorem dX10_findCrossing_25 : decode cX10_findCrossing 25 = .ok (.iload_n 2, 1) := by decide +kernel
theorem dX10_findCrossing_26 : decode cX10_findCrossing 26 = .ok (.invokestatic 51, 3) := by decide +kernel
theorem dX10_findCrossing_29 : decode cX10_findCrossing 29 = .ok (.ifCond .eq 12, 3) := by decide +kernel
theorem dX10_findCrossing_32 : decode cX10_findCrossing 32 = .ok (.aload_n 0, 1) := by decide +kernel
theorem dX10_findCrossing_33 : decode cX10_findCrossing 33 = .ok (.iload_n 1, 1) := by decide +kernel
theorem dX10_findCrossing_34 : decode cX10_findCrossing 34 = .ok (.iload_n 2, 1) := by decide +kernel
theorem dX10_findCrossing_35 : decode cX10_findCrossing 35 = .ok (.invokevirtual 69, 3) := by decide +kernel
theorem dX10_findCrossing_38 : decode cX10_findCrossing 38 = .ok (.goto 4, 3) := by decide +kernel
theorem dX10_findCrossing_41 : decode cX10_findCrossing 41 = .ok (.iconst (-1), 1) := by decide +kernel
theorem dX10_findCrossing_42 : decode cX10_findCrossing 42 = .ok (.istore_n 3, 1) := by decide +kernel
theorem dX10_findCrossing_43 : decode cX10_findCrossing 43 = .ok (.iload_n 3, 1) := by decide +kernel
theorem dX10_findCrossing_44 : decode cX10_findCrossing 44 = .ok (.iconst (-1), 1) := by decide +kernel
theorem dX10_findCrossing_45 : decode cX10_findCrossing 45 = .ok (.if_icmp .eq 14, 3) := by decide +kernel
theorem dX10_findCrossing_48 : decode cX10_findCrossing 48 = .ok (.iload_n 1, 1) := by decide +kernel
theorem dX10_findCrossing_49 : decode cX10_findCrossing 49 = .ok (.iload_n 2, 1) := by decide +kernel
theorem dX10_findCrossing_50 : decode cX10_findCrossing 50 = .ok (.iconst 4, 1) := by decide +kernel
theorem dX10_findCrossing_51 : decode cX10_findCrossing 51 = .ok (.ishl, 1) := by decide +kernel
theorem dX10_findCrossing_52 : decode cX10_findCrossing 52 = .ok (.ior, 1) := by decide +kernel
theorem dX10_findCrossing_53 : decode cX10_findCrossing 53 = .ok (.iload_n 3, 1) := by decide +kernel
theorem dX10_findCrossing_54 : decode cX10_findCrossing 54 = .ok (.bipush 8, 2) := by decide +kernel
theorem dX10_findCrossing_56 : decode cX10_findCrossing 56 = .ok (.ishl, 1) := by decide +kernel
theorem dX10_findCrossing_57 : decode cX10_findCrossing 57 = .ok (.ior, 1) := by decide +kernel
theorem dX10_findCrossing_58 : decode cX10_findCrossing 58 = .ok (.ireturn, 1) := by decide +kernel
theorem dX10_findCrossing_59 : decode cX10_findCrossing 59 = .ok (.iinc 2 1, 3) := by decide +kernel
theorem dX10_findCrossing_62 : decode cX10_findCrossing 62 = .ok (.goto (-50), 3) := by decide +kernel
theorem dX10_findCrossing_65 : decode cX10_findCrossing 65 = .ok (.iinc 1 1, 3) := by decide +kernel
theorem dX10_findCrossing_68 : decode cX10_findCrossing 68 = .ok (.goto (-66), 3) := by decide +kernel
theorem dX10_findCrossing_71 : decode cX10_findCrossing 71 = .ok (.iconst (-1), 1) := by decide +kernel
theorem dX10_findCrossing_72 : decode cX10_findCrossing 72 = .ok (.ireturn, 1) := by decide +kernel
theorem dX10_findEnds_0 : decode cX10_findEnds 0 = .ok (.iconst 0, 1) := by decide +kernel
theorem dX10_findEnds_1 : decode cX10_findEnds 1 = .ok (.istore_n 3, 1) := by decide +kernel
theorem dX10_findEnds_2 : decode cX10_findEnds 2 = .ok (.iload_n 3, 1) := by decide +kernel
theorem dX10_findEnds_3 : decode cX10_findEnds 3 = .ok (.aload_n 0, 1) := by decide +kernel
theorem dX10_findEnds_4 : decode cX10_findEnds 4 = .ok (.getfield 41, 3) := by decide +kernel
theorem dX10_findEnds_7 : decode cX10_findEnds 7 = .ok (.if_icmp .ge 64, 3) := by decide +kernel
theorem dX10_findEnds_10 : decode cX10_findEnds 10 = .ok (.aload_n 0, 1) := by decide +kernel
theorem dX10_findEnds_11 : decode cX10_findEnds 11 = .ok (.getfield 23, 3) := by decide +kernel
theorem dX10_findEnds_14 : decode cX10_findEnds 14 = .ok (.iload_n 2, 1) := by decide +kernel
theorem dX10_findEnds_15 : decode cX10_findEnds 15 = .ok (.iaload, 1) := by decide +kernel
theorem dX10_findEnds_16 : decode cX10_findEnds 16 = .ok (.aload_n 0, 1) := by decide +kernel
theorem dX10_findEnds_17 : decode cX10_findEnds 17 = .ok (.iload_n 1, 1) := by decide +kernel
theorem dX10_findEnds_18 : decode cX10_findEnds 18 = .ok (.invokevirtual 65, 3) := by decide +kernel
theorem dX10_findEnds_21 : decode cX10_findEnds 21 = .ok (.iand, 1) := by decide +kernel
theorem dX10_findEnds_22 : decode cX10_findEnds 22 = .ok (.aload_n 0, 1) := by decide +kernel
theorem dX10_findEnds_23 : decode cX10_findEnds 23 = .ok (.iload_n 3, 1) := by decide +kernel
theorem dX10_findEnds_24 : decode cX10_findEnds 24 = .ok (.invokevirtual 65, 3) := by decide +kernel
theorem dX10_findEnds_27 : decode cX10_findEnds 27 = .ok (.iand, 1) := by decide +kernel
theorem dX10_findEnds_28 : decode cX10_findEnds 28 = .ok (.istore 4, 2) := by decide +kernel
theorem dX10_findEnds_30 : decode cX10_findEnds 30 = .ok (.aload_n 0, 1) := by decide +kernel
theorem dX10_findEnds_31 : decode cX10_findEnds 31 = .ok (.getfield 23, 3) := by decide +kernel
theorem dX10_findEnds_34 : decode cX10_findEnds 34 = .ok (.iload_n 1, 1) := by decide +kernel
theorem dX10_findEnds_35 : decode cX10_findEnds 35 = .ok (.iaload, 1) := by decide +kernel
theorem dX10_findEnds_36 : decode cX10_findEnds 36 = .ok (.aload_n 0, 1) := by decide +kernel
theorem dX10_findEnds_37 : decode cX10_findEnds 37 = .ok (.getfield 23, 3) := by decide +kernel
theorem dX10_findEnds_40 : decode cX10_findEnds 40 = .ok (.iload_n 2, 1) := by decide +kernel
theorem dX10_findEnds_41 : decode cX10_findEnds 41 = .ok (.iaload, 1) := by decide +kernel
theorem dX10_findEnds_42 : decode cX10_findEnds 42 = .ok (.iand, 1) := by decide +kernel
theorem dX10_findEnds_43 : decode cX10_findEnds 43 = .ok (.iload_n 3, 1) := by decide +kernel
theorem dX10_findEnds_44 : decode cX10_findEnds 44 = .ok (.invokestatic 51, 3) := by decide +kernel
theorem dX10_findEnds_47 : decode cX10_findEnds 47 = .ok (.ifCond .eq 18, 3) := by decide +kernel
theorem dX10_findEnds_50 : decode cX10_findEnds 50 = .ok (.iload 4, 2) := by decide +kernel
theorem dX10_findEnds_52 : decode cX10_findEnds 52 = .ok (.ifCond .eq 13, 3) := by decide +kernel
theorem dX10_findEnds_55 : decode cX10_findEnds 55 = .ok (.iload_n 3, 1) := by decide +kernel
theorem dX10_findEnds_56 : decode cX10_findEnds 56 = .ok (.iload 4, 2) := by decide +kernel
theorem dX10_findEnds_58 : decode cX10_findEnds 58 = .ok (.invokestatic 73, 3) := by decide +kernel
theorem dX10_findEnds_61 : decode cX10_findEnds 61 = .ok (.iconst 4, 1) := by decide +kernel
theorem dX10_findEnds_62 : decode cX10_findEnds 62 = .ok (.ishl, 1) := by decide +kernel
theorem dX10_findEnds_63 : decode cX10_findEnds 63 = .ok (.ior, 1) := by decide +kernel
theorem dX10_findEnds_64 : decode cX10_findEnds 64 = .ok (.ireturn, 1) := by decide +kernel
theorem dX10_findEnds_65 : decode cX10_findEnds 65 = .ok (.iinc 3 1, 3) := by decide +kernel
theorem dX10_findEnds_68 : decode cX10_findEnds 68 = .ok (.goto (-66), 3) := by decide +kernel
theorem dX10_findEnds_71 : decode cX10_findEnds 71 = .ok (.iconst (-1), 1) := by decide +kernel
theorem dX10_findEnds_72 : decode cX10_findEnds 72 = .ok (.ireturn, 1) := by decide +kernel
theorem dX10_unbound_0 : decode cX10_unbound 0 = .ok (.aload_n 0, 1) := by decide +kernel
theorem dX10_unbound_1 : decode cX10_unbound 1 = .ok (.invokevirtual 58, 3) := by decide +kernel
theorem dX10_unbound_4 : decode cX10_unbound 4 = .ok (.aload_n 0, 1) := by decide +kernel
theorem dX10_unbound_5 : decode cX10_unbound 5 = .ok (.getfield 20, 3) := by decide +kernel
theorem dX10_unbound_8 : decode cX10_unbound 8 = .ok (.iload_n 1, 1) := by decide +kernel
theorem dX10_unbound_9 : decode cX10_unbound 9 = .ok (.iaload, 1) := by decide +kernel
theorem dX10_unbound_10 : decode cX10_unbound 10 = .ok (.aload_n 0, 1) := by decide +kernel
theorem dX10_unbound_11 : decode cX10_unbound 11 = .ok (.getfield 23, 3) := by decide +kernel
theorem dX10_unbound_14 : decode cX10_unbound 14 = .ok (.iload_n 1, 1) := by decide +kernel
theorem dX10_unbound_15 : decode cX10_unbound 15 = .ok (.iaload, 1) := by decide +kernel
theorem dX10_unbound_16 : decode cX10_unbound 16 = .ok (.ior, 1) := by decide +kernel
theorem dX10_unbound_17 : decode cX10_unbound 17 = .ok (.iconst 1, 1) := by decide +kernel
theorem dX10_unbound_18 : decode cX10_unbound 18 = .ok (.iload_n 1, 1) := by decide +kernel
theorem dX10_unbound_19 : decode cX10_unbound 19 = .ok (.ishl, 1) := by decide +kernel
theorem dX10_unbound_20 : decode cX10_unbound 20 = .ok (.ior, 1) := by decide +kernel
theorem dX10_unbound_21 : decode cX10_unbound 21 = .ok (.iconst (-1), 1) := by decide +kernel
theorem dX10_unbound_22 : decode cX10_unbound 22 = .ok (.ixor, 1) := by decide +kernel
theorem dX10_unbound_23 : decode cX10_unbound 23 = .ok (.iand, 1) := by decide +kernel
theorem dX10_unbound_24 : decode cX10_unbound 24 = .ok (.ireturn, 1) := by decide +kernel
theorem dX10_renew_0 : decode cX10_renew 0 = .ok (.aload_n 0, 1) := by decide +kernel
theorem dX10_renew_1 : decode cX10_renew 1 = .ok (.dup, 1) := by decide +kernel
theorem dX10_renew_2 : decode cX10_renew 2 = .ok (.getfield 48, 3) := by decide +kernel
theorem dX10_renew_5 : decode cX10_renew 5 = .ok (.iconst 1, 1) := by decide +kernel
theorem dX10_renew_6 : decode cX10_renew 6 = .ok (.iadd, 1) := by decide +kernel
theorem dX10_renew_7 : decode cX10_renew 7 = .ok (.putfield 48, 3) := by decide +kernel
theorem dX10_renew_10 : decode cX10_renew 10 = .ok (.aload_n 0, 1) := by decide +kernel
theorem dX10_renew_11 : decode cX10_renew 11 = .ok (.invokevirtual 78, 3) := by decide +kernel
theorem dX10_renew_14 : decode cX10_renew 14 = .ok (.aload_n 0, 1) := by decide +kernel
theorem dX10_renew_15 : decode cX10_renew 15 = .ok (.invokevirtual 81, 3) := by decide +kernel
theorem dX10_renew_18 : decode cX10_renew 18 = .ok (.aload_n 0, 1) := by decide +kernel
theorem dX10_renew_19 : decode cX10_renew 19 = .ok (.iconst 0, 1) := by decide +kernel
theorem dX10_renew_20 : decode cX10_renew 20 = .ok (.iconst 0, 1) := by decide +kernel
theorem dX10_renew_21 : decode cX10_renew 21 = .ok (.invokevirtual 84, 3) := by decide +kernel
theorem dX10_renew_24 : decode cX10_renew 24 = .ok (.aload_n 0, 1) := by decide +kernel
theorem dX10_renew_25 : decode cX10_renew 25 = .ok (.bipush 64, 2) := by decide +kernel
theorem dX10_renew_27 : decode cX10_renew 27 = .ok (.bipush 6, 2) := by decide +kernel
theorem dX10_renew_29 : decode cX10_renew 29 = .ok (.invokevirtual 84, 3) := by decide +kernel
theorem dX10_renew_32 : decode cX10_renew 32 = .ok (.return_, 1) := by decide +kernel
theorem dX10_followLaid_0 : decode cX10_followLaid 0 = .ok (.iconst 0, 1) := by decide +kernel
theorem dX10_followLaid_1 : decode cX10_followLaid 1 = .ok (.istore_n 1, 1) := by decide +kernel
theorem dX10_followLaid_2 : decode cX10_followLaid 2 = .ok (.iload_n 1, 1) := by decide +kernel
theorem dX10_followLaid_3 : decode cX10_followLaid 3 = .ok (.aload_n 0, 1) := by decide +kernel
theorem dX10_followLaid_4 : decode cX10_followLaid 4 = .ok (.getfield 41, 3) := by decide +kernel
theorem dX10_followLaid_7 : decode cX10_followLaid 7 = .ok (.if_icmp .ge 21, 3) := by decide +kernel
theorem dX10_followLaid_10 : decode cX10_followLaid 10 = .ok (.aload_n 0, 1) := by decide +kernel
theorem dX10_followLaid_11 : decode cX10_followLaid 11 = .ok (.getfield 23, 3) := by decide +kernel
theorem dX10_followLaid_14 : decode cX10_followLaid 14 = .ok (.iload_n 1, 1) := by decide +kernel
theorem dX10_followLaid_15 : decode cX10_followLaid 15 = .ok (.aload_n 0, 1) := by decide +kernel
theorem dX10_followLaid_16 : decode cX10_followLaid 16 = .ok (.getfield 16, 3) := by decide +kernel
theorem dX10_followLaid_19 : decode cX10_followLaid 19 = .ok (.iload_n 1, 1) := by decide +kernel
theorem dX10_followLaid_20 : decode cX10_followLaid 20 = .ok (.iaload, 1) := by decide +kernel
theorem dX10_followLaid_21 : decode cX10_followLaid 21 = .ok (.iastore, 1) := by decide +kernel
theorem dX10_followLaid_22 : decode cX10_followLaid 22 = .ok (.iinc 1 1, 3) := by decide +kernel
theorem dX10_followLaid_25 : decode cX10_followLaid 25 = .ok (.goto (-23), 3) := by decide +kernel
theorem dX10_followLaid_28 : decode cX10_followLaid 28 = .ok (.iconst 0, 1) := by decide +kernel
theorem dX10_followLaid_29 : decode cX10_followLaid 29 = .ok (.istore_n 1, 1) := by decide +kernel
theorem dX10_followLaid_30 : decode cX10_followLaid 30 = .ok (.iload_n 1, 1) := by decide +kernel
theorem dX10_followLaid_31 : decode cX10_followLaid 31 = .ok (.aload_n 0, 1) := by decide +kernel
theorem dX10_followLaid_32 : decode cX10_followLaid 32 = .ok (.getfield 41, 3) := by decide +kernel
theorem dX10_followLaid_35 : decode cX10_followLaid 35 = .ok (.if_icmp .ge 53, 3) := by decide +kernel
theorem dX10_followLaid_38 : decode cX10_followLaid 38 = .ok (.iconst 0, 1) := by decide +kernel
theorem dX10_followLaid_39 : decode cX10_followLaid 39 = .ok (.istore_n 2, 1) := by decide +kernel
theorem dX10_followLaid_40 : decode cX10_followLaid 40 = .ok (.iload_n 2, 1) := by decide +kernel
theorem dX10_followLaid_41 : decode cX10_followLaid 41 = .ok (.aload_n 0, 1) := by decide +kernel
theorem dX10_followLaid_42 : decode cX10_followLaid 42 = .ok (.getfield 41, 3) := by decide +kernel
theorem dX10_followLaid_45 : decode cX10_followLaid 45 = .ok (.if_icmp .ge 37, 3) := by decide +kernel
theorem dX10_followLaid_48 : decode cX10_followLaid 48 = .ok (.aload_n 0, 1) := by decide +kernel
theorem dX10_followLaid_49 : decode cX10_followLaid 49 = .ok (.getfield 23, 3) := by decide +kernel
theorem dX10_followLaid_52 : decode cX10_followLaid 52 = .ok (.iload_n 2, 1) := by decide +kernel
theorem dX10_followLaid_53 : decode cX10_followLaid 53 = .ok (.iaload, 1) := by decide +kernel
theorem dX10_followLaid_54 : decode cX10_followLaid 54 = .ok (.iload_n 1, 1) := by decide +kernel
theorem dX10_followLaid_55 : decode cX10_followLaid 55 = .ok (.invokestatic 51, 3) := by decide +kernel
theorem dX10_followLaid_58 : decode cX10_followLaid 58 = .ok (.ifCond .eq 18, 3) := by decide +kernel
theorem dX10_followLaid_61 : decode cX10_followLaid 61 = .ok (.aload_n 0, 1) := by decide +kernel
theorem dX10_followLaid_62 : decode cX10_followLaid 62 = .ok (.getfield 23, 3) := by decide +kernel
theorem dX10_followLaid_65 : decode cX10_followLaid 65 = .ok (.iload_n 2, 1) := by decide +kernel
theorem dX10_followLaid_66 : decode cX10_followLaid 66 = .ok (.dup2, 1) := by decide +kernel
theorem dX10_followLaid_67 : decode cX10_followLaid 67 = .ok (.iaload, 1) := by decide +kernel
theorem dX10_followLaid_68 : decode cX10_followLaid 68 = .ok (.aload_n 0, 1) := by decide +kernel
theorem dX10_followLaid_69 : decode cX10_followLaid 69 = .ok (.getfield 23, 3) := by decide +kernel
theorem dX10_followLaid_72 : decode cX10_followLaid 72 = .ok (.iload_n 1, 1) := by decide +kernel
theorem dX10_followLaid_73 : decode cX10_followLaid 73 = .ok (.iaload, 1) := by decide +kernel
theorem dX10_followLaid_74 : decode cX10_followLaid 74 = .ok (.ior, 1) := by decide +kernel
theorem dX10_followLaid_75 : decode cX10_followLaid 75 = .ok (.iastore, 1) := by decide +kernel
theorem dX10_followLaid_76 : decode cX10_followLaid 76 = .ok (.iinc 2 1, 3) := by decide +kernel
theorem dX10_followLaid_79 : decode cX10_followLaid 79 = .ok (.goto (-39), 3) := by decide +kernel
theorem dX10_followLaid_82 : decode cX10_followLaid 82 = .ok (.iinc 1 1, 3) := by decide +kernel
theorem dX10_followLaid_85 : decode cX10_followLaid 85 = .ok (.goto (-55), 3) := by decide +kernel
theorem dX10_followLaid_88 : decode cX10_followLaid 88 = .ok (.return_, 1) := by decide +kernel
theorem dX10_turnBehind_0 : decode cX10_turnBehind 0 = .ok (.iconst 0, 1) := by decide +kernel
theorem dX10_turnBehind_1 : decode cX10_turnBehind 1 = .ok (.istore_n 1, 1) := by decide +kernel
theorem dX10_turnBehind_2 : decode cX10_turnBehind 2 = .ok (.iload_n 1, 1) := by decide +kernel
theorem dX10_turnBehind_3 : decode cX10_turnBehind 3 = .ok (.aload_n 0, 1) := by decide +kernel
theorem dX10_turnBehind_4 : decode cX10_turnBehind 4 = .ok (.getfield 41, 3) := by decide +kernel
theorem dX10_turnBehind_7 : decode cX10_turnBehind 7 = .ok (.if_icmp .ge 53, 3) := by decide +kernel
theorem dX10_turnBehind_10 : decode cX10_turnBehind 10 = .ok (.iconst 0, 1) := by decide +kernel
theorem dX10_turnBehind_11 : decode cX10_turnBehind 11 = .ok (.istore_n 2, 1) := by decide +kernel
theorem dX10_turnBehind_12 : decode cX10_turnBehind 12 = .ok (.iconst 0, 1) := by decide +kernel
theorem dX10_turnBehind_13 : decode cX10_turnBehind 13 = .ok (.istore_n 3, 1) := by decide +kernel
theorem dX10_turnBehind_14 : decode cX10_turnBehind 14 = .ok (.iload_n 3, 1) := by decide +kernel
theorem dX10_turnBehind_15 : decode cX10_turnBehind 15 = .ok (.aload_n 0, 1) := by decide +kernel
theorem dX10_turnBehind_16 : decode cX10_turnBehind 16 = .ok (.getfield 41, 3) := by decide +kernel
theorem dX10_turnBehind_19 : decode cX10_turnBehind 19 = .ok (.if_icmp .ge 28, 3) := by decide +kernel
theorem dX10_turnBehind_22 : decode cX10_turnBehind 22 = .ok (.aload_n 0, 1) := by decide +kernel
theorem dX10_turnBehind_23 : decode cX10_turnBehind 23 = .ok (.getfield 23, 3) := by decide +kernel
theorem dX10_turnBehind_26 : decode cX10_turnBehind 26 = .ok (.iload_n 3, 1) := by decide +kernel
theorem dX10_turnBehind_27 : decode cX10_turnBehind 27 = .ok (.iaload, 1) := by decide +kernel
theorem dX10_turnBehind_28 : decode cX10_turnBehind 28 = .ok (.iload_n 1, 1) := by decide +kernel
theorem dX10_turnBehind_29 : decode cX10_turnBehind 29 = .ok (.invokestatic 51, 3) := by decide +kernel
theorem dX10_turnBehind_32 : decode cX10_turnBehind 32 = .ok (.ifCond .eq 9, 3) := by decide +kernel
theorem dX10_turnBehind_35 : decode cX10_turnBehind 35 = .ok (.iload_n 2, 1) := by decide +kernel
theorem dX10_turnBehind_36 : decode cX10_turnBehind 36 = .ok (.iconst 1, 1) := by decide +kernel
theorem dX10_turnBehind_37 : decode cX10_turnBehind 37 = .ok (.iload_n 3, 1) := by decide +kernel
theorem dX10_turnBehind_38 : decode cX10_turnBehind 38 = .ok (.ishl, 1) := by decide +kernel
theorem dX10_turnBehind_39 : decode cX10_turnBehind 39 = .ok (.ior, 1) := by decide +kernel
theorem dX10_turnBehind_40 : decode cX10_turnBehind 40 = .ok (.istore_n 2, 1) := by decide +kernel
theorem dX10_turnBehind_41 : decode cX10_turnBehind 41 = .ok (.iinc 3 1, 3) := by decide +kernel
theorem dX10_turnBehind_44 : decode cX10_turnBehind 44 = .ok (.goto (-30), 3) := by decide +kernel
theorem dX10_turnBehind_47 : decode cX10_turnBehind 47 = .ok (.aload_n 0, 1) := by decide +kernel
theorem dX10_turnBehind_48 : decode cX10_turnBehind 48 = .ok (.getfield 20, 3) := by decide +kernel
theorem dX10_turnBehind_51 : decode cX10_turnBehind 51 = .ok (.iload_n 1, 1) := by decide +kernel
theorem dX10_turnBehind_52 : decode cX10_turnBehind 52 = .ok (.iload_n 2, 1) := by decide +kernel
theorem dX10_turnBehind_53 : decode cX10_turnBehind 53 = .ok (.iastore, 1) := by decide +kernel
theorem dX10_turnBehind_54 : decode cX10_turnBehind 54 = .ok (.iinc 1 1, 3) := by decide +kernel
theorem dX10_turnBehind_57 : decode cX10_turnBehind 57 = .ok (.goto (-55), 3) := by decide +kernel
theorem dX10_turnBehind_60 : decode cX10_turnBehind 60 = .ok (.return_, 1) := by decide +kernel
theorem dX10_sumHalf_0 : decode cX10_sumHalf 0 = .ok (.aload_n 0, 1) := by decide +kernel
theorem dX10_sumHalf_1 : decode cX10_sumHalf 1 = .ok (.getfield 41, 3) := by decide +kernel
theorem dX10_sumHalf_4 : decode cX10_sumHalf 4 = .ok (.iload_n 2, 1) := by decide +kernel
theorem dX10_sumHalf_5 : decode cX10_sumHalf 5 = .ok (.isub, 1) := by decide +kernel
theorem dX10_sumHalf_6 : decode cX10_sumHalf 6 = .ok (.iconst 0, 1) := by decide +kernel
theorem dX10_sumHalf_7 : decode cX10_sumHalf 7 = .ok (.invokestatic 88, 3) := by decide +kernel
theorem dX10_sumHalf_10 : decode cX10_sumHalf 10 = .ok (.bipush 6, 2) := by decide +kernel
theorem dX10_sumHalf_12 : decode cX10_sumHalf 12 = .ok (.invokestatic 93, 3) := by decide +kernel
theorem dX10_sumHalf_15 : decode cX10_sumHalf 15 = .ok (.istore_n 3, 1) := by decide +kernel
theorem dX10_sumHalf_16 : decode cX10_sumHalf 16 = .ok (.iconst 1, 1) := by decide +kernel
theorem dX10_sumHalf_17 : decode cX10_sumHalf 17 = .ok (.istore 4, 2) := by decide +kernel
theorem dX10_sumHalf_19 : decode cX10_sumHalf 19 = .ok (.iload 4, 2) := by decide +kernel
theorem dX10_sumHalf_21 : decode cX10_sumHalf 21 = .ok (.iconst 1, 1) := by decide +kernel
theorem dX10_sumHalf_22 : decode cX10_sumHalf 22 = .ok (.iload_n 3, 1) := by decide +kernel
theorem dX10_sumHalf_23 : decode cX10_sumHalf 23 = .ok (.ishl, 1) := by decide +kernel
theorem dX10_sumHalf_24 : decode cX10_sumHalf 24 = .ok (.if_icmp .ge 105, 3) := by decide +kernel
theorem dX10_sumHalf_27 : decode cX10_sumHalf 27 = .ok (.iload_n 1, 1) := by decide +kernel
theorem dX10_sumHalf_28 : decode cX10_sumHalf 28 = .ok (.iload 4, 2) := by decide +kernel
theorem dX10_sumHalf_30 : decode cX10_sumHalf 30 = .ok (.iload 4, 2) := by decide +kernel
theorem dX10_sumHalf_32 : decode cX10_sumHalf 32 = .ok (.iconst 1, 1) := by decide +kernel
theorem dX10_sumHalf_33 : decode cX10_sumHalf 33 = .ok (.isub, 1) := by decide +kernel
theorem dX10_sumHalf_34 : decode cX10_sumHalf 34 = .ok (.iand, 1) := by decide +kernel
theorem dX10_sumHalf_35 : decode cX10_sumHalf 35 = .ok (.iadd, 1) := by decide +kernel
theorem dX10_sumHalf_36 : decode cX10_sumHalf 36 = .ok (.istore 5, 2) := by decide +kernel
theorem dX10_sumHalf_38 : decode cX10_sumHalf 38 = .ok (.iload_n 2, 1) := by decide +kernel
theorem dX10_sumHalf_39 : decode cX10_sumHalf 39 = .ok (.iload 4, 2) := by decide +kernel
theorem dX10_sumHalf_41 : decode cX10_sumHalf 41 = .ok (.invokestatic 73, 3) := by decide +kernel
theorem dX10_sumHalf_44 : decode cX10_sumHalf 44 = .ok (.iadd, 1) := by decide +kernel
theorem dX10_sumHalf_45 : decode cX10_sumHalf 45 = .ok (.istore 6, 2) := by decide +kernel
theorem dX10_sumHalf_47 : decode cX10_sumHalf 47 = .ok (.aload_n 0, 1) := by decide +kernel
theorem dX10_sumHalf_48 : decode cX10_sumHalf 48 = .ok (.getfield 26, 3) := by decide +kernel
theorem dX10_sumHalf_51 : decode cX10_sumHalf 51 = .ok (.iload_n 1, 1) := by decide +kernel
theorem dX10_sumHalf_52 : decode cX10_sumHalf 52 = .ok (.iload 4, 2) := by decide +kernel
theorem dX10_sumHalf_54 : decode cX10_sumHalf 54 = .ok (.iadd, 1) := by decide +kernel
theorem dX10_sumHalf_55 : decode cX10_sumHalf 55 = .ok (.aload_n 0, 1) := by decide +kernel
theorem dX10_sumHalf_56 : decode cX10_sumHalf 56 = .ok (.getfield 26, 3) := by decide +kernel
theorem dX10_sumHalf_59 : decode cX10_sumHalf 59 = .ok (.iload 5, 2) := by decide +kernel
theorem dX10_sumHalf_61 : decode cX10_sumHalf 61 = .ok (.iaload, 1) := by decide +kernel
theorem dX10_sumHalf_62 : decode cX10_sumHalf 62 = .ok (.aload_n 0, 1) := by decide +kernel
theorem dX10_sumHalf_63 : decode cX10_sumHalf 63 = .ok (.getfield 13, 3) := by decide +kernel
theorem dX10_sumHalf_66 : decode cX10_sumHalf 66 = .ok (.iconst 0, 1) := by decide +kernel
theorem dX10_sumHalf_67 : decode cX10_sumHalf 67 = .ok (.aaload, 1) := by decide +kernel
theorem dX10_sumHalf_68 : decode cX10_sumHalf 68 = .ok (.iload 6, 2) := by decide +kernel
theorem dX10_sumHalf_70 : decode cX10_sumHalf 70 = .ok (.iaload, 1) := by decide +kernel
theorem dX10_sumHalf_71 : decode cX10_sumHalf 71 = .ok (.iadd, 1) := by decide +kernel
theorem dX10_sumHalf_72 : decode cX10_sumHalf 72 = .ok (.iastore, 1) := by decide +kernel
theorem dX10_sumHalf_73 : decode cX10_sumHalf 73 = .ok (.aload_n 0, 1) := by decide +kernel
theorem dX10_sumHalf_74 : decode cX10_sumHalf 74 = .ok (.getfield 29, 3) := by decide +kernel
theorem dX10_sumHalf_77 : decode cX10_sumHalf 77 = .ok (.iload_n 1, 1) := by decide +kernel
theorem dX10_sumHalf_78 : decode cX10_sumHalf 78 = .ok (.iload 4, 2) := by decide +kernel
theorem dX10_sumHalf_80 : decode cX10_sumHalf 80 = .ok (.iadd, 1) := by decide +kernel
theorem dX10_sumHalf_81 : decode cX10_sumHalf 81 = .ok (.aload_n 0, 1) := by decide +kernel
theorem dX10_sumHalf_82 : decode cX10_sumHalf 82 = .ok (.getfield 29, 3) := by decide +kernel
theorem dX10_sumHalf_85 : decode cX10_sumHalf 85 = .ok (.iload 5, 2) := by decide +kernel
theorem dX10_sumHalf_87 : decode cX10_sumHalf 87 = .ok (.iaload, 1) := by decide +kernel
theorem dX10_sumHalf_88 : decode cX10_sumHalf 88 = .ok (.aload_n 0, 1) := by decide +kernel
theorem dX10_sumHalf_89 : decode cX10_sumHalf 89 = .ok (.getfield 13, 3) := by decide +kernel
theorem dX10_sumHalf_92 : decode cX10_sumHalf 92 = .ok (.iconst 1, 1) := by decide +kernel
theorem dX10_sumHalf_93 : decode cX10_sumHalf 93 = .ok (.aaload, 1) := by decide +kernel
theorem dX10_sumHalf_94 : decode cX10_sumHalf 94 = .ok (.iload 6, 2) := by decide +kernel
theorem dX10_sumHalf_96 : decode cX10_sumHalf 96 = .ok (.iaload, 1) := by decide +kernel
theorem dX10_sumHalf_97 : decode cX10_sumHalf 97 = .ok (.iadd, 1) := by decide +kernel
theorem dX10_sumHalf_98 : decode cX10_sumHalf 98 = .ok (.iastore, 1) := by decide +kernel
theorem dX10_sumHalf_99 : decode cX10_sumHalf 99 = .ok (.aload_n 0, 1) := by decide +kernel
theorem dX10_sumHalf_100 : decode cX10_sumHalf 100 = .ok (.getfield 32, 3) := by decide +kernel
theorem dX10_sumHalf_103 : decode cX10_sumHalf 103 = .ok (.iload_n 1, 1) := by decide +kernel
theorem dX10_sumHalf_104 : decode cX10_sumHalf 104 = .ok (.iload 4, 2) := by decide +kernel
theorem dX10_sumHalf_106 : decode cX10_sumHalf 106 = .ok (.iadd, 1) := by decide +kernel
theorem dX10_sumHalf_107 : decode cX10_sumHalf 107 = .ok (.aload_n 0, 1) := by decide +kernel
theorem dX10_sumHalf_108 : decode cX10_sumHalf 108 = .ok (.getfield 32, 3) := by decide +kernel
theorem dX10_sumHalf_111 : decode cX10_sumHalf 111 = .ok (.iload 5, 2) := by decide +kernel
theorem dX10_sumHalf_113 : decode cX10_sumHalf 113 = .ok (.iaload, 1) := by decide +kernel
theorem dX10_sumHalf_114 : decode cX10_sumHalf 114 = .ok (.aload_n 0, 1) := by decide +kernel
theorem dX10_sumHalf_115 : decode cX10_sumHalf 115 = .ok (.getfield 20, 3) := by decide +kernel
theorem dX10_sumHalf_118 : decode cX10_sumHalf 118 = .ok (.iload 6, 2) := by decide +kernel
theorem dX10_sumHalf_120 : decode cX10_sumHalf 120 = .ok (.iaload, 1) := by decide +kernel
theorem dX10_sumHalf_121 : decode cX10_sumHalf 121 = .ok (.ior, 1) := by decide +kernel
theorem dX10_sumHalf_122 : decode cX10_sumHalf 122 = .ok (.iastore, 1) := by decide +kernel
theorem dX10_sumHalf_123 : decode cX10_sumHalf 123 = .ok (.iinc 4 1, 3) := by decide +kernel
theorem dX10_sumHalf_126 : decode cX10_sumHalf 126 = .ok (.goto (-107), 3) := by decide +kernel
theorem dX10_sumHalf_129 : decode cX10_sumHalf 129 = .ok (.return_, 1) := by decide +kernel
theorem dX11_init_0 : decode cX11_init 0 = .ok (.aload_n 0, 1) := by decide +kernel
theorem dX11_init_1 : decode cX11_init 1 = .ok (.invokespecial 1, 3) := by decide +kernel
theorem dX11_init_4 : decode cX11_init 4 = .ok (.aload_n 0, 1) := by decide +kernel
theorem dX11_init_5 : decode cX11_init 5 = .ok (.new 7, 3) := by decide +kernel
theorem dX11_init_8 : decode cX11_init 8 = .ok (.dup, 1) := by decide +kernel
theorem dX11_init_9 : decode cX11_init 9 = .ok (.invokespecial 9, 3) := by decide +kernel
theorem dX11_init_12 : decode cX11_init 12 = .ok (.putfield 10, 3) := by decide +kernel
theorem dX11_init_15 : decode cX11_init 15 = .ok (.aload_n 0, 1) := by decide +kernel
theorem dX11_init_16 : decode cX11_init 16 = .ok (.new 16, 3) := by decide +kernel
theorem dX11_init_19 : decode cX11_init 19 = .ok (.dup, 1) := by decide +kernel
theorem dX11_init_20 : decode cX11_init 20 = .ok (.invokespecial 18, 3) := by decide +kernel
theorem dX11_init_23 : decode cX11_init 23 = .ok (.putfield 19, 3) := by decide +kernel
theorem dX11_init_26 : decode cX11_init 26 = .ok (.aload_n 0, 1) := by decide +kernel
theorem dX11_init_27 : decode cX11_init 27 = .ok (.new 23, 3) := by decide +kernel
theorem dX11_init_30 : decode cX11_init 30 = .ok (.dup, 1) := by decide +kernel
theorem dX11_init_31 : decode cX11_init 31 = .ok (.invokespecial 25, 3) := by decide +kernel
theorem dX11_init_34 : decode cX11_init 34 = .ok (.putfield 26, 3) := by decide +kernel
theorem dX11_init_37 : decode cX11_init 37 = .ok (.aload_n 0, 1) := by decide +kernel
theorem dX11_init_38 : decode cX11_init 38 = .ok (.new 30, 3) := by decide +kernel
theorem dX11_init_41 : decode cX11_init 41 = .ok (.dup, 1) := by decide +kernel
theorem dX11_init_42 : decode cX11_init 42 = .ok (.invokespecial 32, 3) := by decide +kernel
theorem dX11_init_45 : decode cX11_init 45 = .ok (.putfield 33, 3) := by decide +kernel
theorem dX11_init_48 : decode cX11_init 48 = .ok (.aload_n 0, 1) := by decide +kernel
theorem dX11_init_49 : decode cX11_init 49 = .ok (.new 37, 3) := by decide +kernel
theorem dX11_init_52 : decode cX11_init 52 = .ok (.dup, 1) := by decide +kernel
theorem dX11_init_53 : decode cX11_init 53 = .ok (.invokespecial 39, 3) := by decide +kernel
theorem dX11_init_56 : decode cX11_init 56 = .ok (.putfield 40, 3) := by decide +kernel
theorem dX11_init_59 : decode cX11_init 59 = .ok (.aload_n 0, 1) := by decide +kernel
theorem dX11_init_60 : decode cX11_init 60 = .ok (.iconst 5, 1) := by decide +kernel
theorem dX11_init_61 : decode cX11_init 61 = .ok (.anewarray 44, 3) := by decide +kernel
theorem dX11_init_64 : decode cX11_init 64 = .ok (.dup, 1) := by decide +kernel
theorem dX11_init_65 : decode cX11_init 65 = .ok (.iconst 0, 1) := by decide +kernel
theorem dX11_init_66 : decode cX11_init 66 = .ok (.new 44, 3) := by decide +kernel
theorem dX11_init_69 : decode cX11_init 69 = .ok (.dup, 1) := by decide +kernel
theorem dX11_init_70 : decode cX11_init 70 = .ok (.invokespecial 46, 3) := by decide +kernel
theorem dX11_init_73 : decode cX11_init 73 = .ok (.aastore, 1) := by decide +kernel
theorem dX11_init_74 : decode cX11_init 74 = .ok (.dup, 1) := by decide +kernel
theorem dX11_init_75 : decode cX11_init 75 = .ok (.iconst 1, 1) := by decide +kernel
theorem dX11_init_76 : decode cX11_init 76 = .ok (.new 47, 3) := by decide +kernel
theorem dX11_init_79 : decode cX11_init 79 = .ok (.dup, 1) := by decide +kernel
theorem dX11_init_80 : decode cX11_init 80 = .ok (.invokespecial 49, 3) := by decide +kernel
theorem dX11_init_83 : decode cX11_init 83 = .ok (.aastore, 1) := by decide +kernel
theorem dX11_init_84 : decode cX11_init 84 = .ok (.dup, 1) := by decide +kernel
theorem dX11_init_85 : decode cX11_init 85 = .ok (.iconst 2, 1) := by decide +kernel
theorem dX11_init_86 : decode cX11_init 86 = .ok (.new 50, 3) := by decide +kernel
theorem dX11_init_89 : decode cX11_init 89 = .ok (.dup, 1) := by decide +kernel
theorem dX11_init_90 : decode cX11_init 90 = .ok (.invokespecial 52, 3) := by decide +kernel
theorem dX11_init_93 : decode cX11_init 93 = .ok (.aastore, 1) := by decide +kernel
theorem dX11_init_94 : decode cX11_init 94 = .ok (.dup, 1) := by decide +kernel
theorem dX11_init_95 : decode cX11_init 95 = .ok (.iconst 3, 1) := by decide +kernel
theorem dX11_init_96 : decode cX11_init 96 = .ok (.new 53, 3) := by decide +kernel
theorem dX11_init_99 : decode cX11_init 99 = .ok (.dup, 1) := by decide +kernel
theorem dX11_init_100 : decode cX11_init 100 = .ok (.invokespecial 55, 3) := by decide +kernel
theorem dX11_init_103 : decode cX11_init 103 = .ok (.aastore, 1) := by decide +kernel
theorem dX11_init_104 : decode cX11_init 104 = .ok (.dup, 1) := by decide +kernel
theorem dX11_init_105 : decode cX11_init 105 = .ok (.iconst 4, 1) := by decide +kernel
theorem dX11_init_106 : decode cX11_init 106 = .ok (.new 56, 3) := by decide +kernel
theorem dX11_init_109 : decode cX11_init 109 = .ok (.dup, 1) := by decide +kernel
theorem dX11_init_110 : decode cX11_init 110 = .ok (.invokespecial 58, 3) := by decide +kernel
theorem dX11_init_113 : decode cX11_init 113 = .ok (.aastore, 1) := by decide +kernel
theorem dX11_init_114 : decode cX11_init 114 = .ok (.putfield 59, 3) := by decide +kernel
theorem dX11_init_117 : decode cX11_init 117 = .ok (.aload_n 0, 1) := by decide +kernel
theorem dX11_init_118 : decode cX11_init 118 = .ok (.bipush 6, 2) := by decide +kernel
theorem dX11_init_120 : decode cX11_init 120 = .ok (.anewarray 63, 3) := by decide +kernel
theorem dX11_init_123 : decode cX11_init 123 = .ok (.putfield 65, 3) := by decide +kernel
theorem dX11_init_126 : decode cX11_init 126 = .ok (.iconst 0, 1) := by decide +kernel
theorem dX11_init_127 : decode cX11_init 127 = .ok (.istore_n 1, 1) := by decide +kernel
theorem dX11_init_128 : decode cX11_init 128 = .ok (.iload_n 1, 1) := by decide +kernel
theorem dX11_init_129 : decode cX11_init 129 = .ok (.bipush 6, 2) := by decide +kernel
theorem dX11_init_131 : decode cX11_init 131 = .ok (.if_icmp .ge 22, 3) := by decide +kernel
theorem dX11_init_134 : decode cX11_init 134 = .ok (.aload_n 0, 1) := by decide +kernel
theorem dX11_init_135 : decode cX11_init 135 = .ok (.getfield 65, 3) := by decide +kernel
theorem dX11_init_138 : decode cX11_init 138 = .ok (.iload_n 1, 1) := by decide +kernel
theorem dX11_init_139 : decode cX11_init 139 = .ok (.new 63, 3) := by decide +kernel
theorem dX11_init_142 : decode cX11_init 142 = .ok (.dup, 1) := by decide +kernel
theorem dX11_init_143 : decode cX11_init 143 = .ok (.invokespecial 69, 3) := by decide +kernel
theorem dX11_init_146 : decode cX11_init 146 = .ok (.aastore, 1) := by decide +kernel
theorem dX11_init_147 : decode cX11_init 147 = .ok (.iinc 1 1, 3) := by decide +kernel
theorem dX11_init_150 : decode cX11_init 150 = .ok (.goto (-22), 3) := by decide +kernel
theorem dX11_init_153 : decode cX11_init 153 = .ok (.aload_n 0, 1) := by decide +kernel
theorem dX11_init_154 : decode cX11_init 154 = .ok (.iconst 0, 1) := by decide +kernel
theorem dX11_init_155 : decode cX11_init 155 = .ok (.putfield 70, 3) := by decide +kernel
theorem dX11_init_158 : decode cX11_init 158 = .ok (.return_, 1) := by decide +kernel
theorem dX11_job_0 : decode cX11_job 0 = .ok (.iconst 0, 1) := by decide +kernel
theorem dX11_job_1 : decode cX11_job 1 = .ok (.iload_n 1, 1) := by decide +kernel
theorem dX11_job_2 : decode cX11_job 2 = .ok (.invokestatic 74, 3) := by decide +kernel
theorem dX11_job_5 : decode cX11_job 5 = .ok (.ifCond .eq 11, 3) := by decide +kernel
theorem dX11_job_8 : decode cX11_job 8 = .ok (.iconst 1, 1) := by decide +kernel
theorem dX11_job_9 : decode cX11_job 9 = .ok (.iload_n 2, 1) := by decide +kernel
theorem dX11_job_10 : decode cX11_job 10 = .ok (.invokestatic 74, 3) := by decide +kernel
theorem dX11_job_13 : decode cX11_job 13 = .ok (.ifCond .ne 9, 3) := by decide +kernel
theorem dX11_job_16 : decode cX11_job 16 = .ok (.aload_n 0, 1) := by decide +kernel
theorem dX11_job_17 : decode cX11_job 17 = .ok (.iconst 1, 1) := by decide +kernel
theorem dX11_job_18 : decode cX11_job 18 = .ok (.invokevirtual 78, 3) := by decide +kernel
theorem dX11_job_21 : decode cX11_job 21 = .ok (.ireturn, 1) := by decide +kernel
theorem dX11_job_22 : decode cX11_job 22 = .ok (.aload_n 0, 1) := by decide +kernel
theorem dX11_job_23 : decode cX11_job 23 = .ok (.getfield 10, 3) := by decide +kernel
theorem dX11_job_26 : decode cX11_job 26 = .ok (.invokevirtual 82, 3) := by decide +kernel
theorem dX11_job_29 : decode cX11_job 29 = .ok (.ifCond .eq 9, 3) := by decide +kernel
theorem dX11_job_32 : decode cX11_job 32 = .ok (.aload_n 0, 1) := by decide +kernel
theorem dX11_job_33 : decode cX11_job 33 = .ok (.iconst 2, 1) := by decide +kernel
theorem dX11_job_34 : decode cX11_job 34 = .ok (.invokevirtual 78, 3) := by decide +kernel
theorem dX11_job_37 : decode cX11_job 37 = .ok (.ireturn, 1) := by decide +kernel
theorem dX11_job_38 : decode cX11_job 38 = .ok (.aload_n 0, 1) := by decide +kernel
theorem dX11_job_39 : decode cX11_job 39 = .ok (.aload_n 0, 1) := by decide +kernel
theorem dX11_job_40 : decode cX11_job 40 = .ok (.iload_n 1, 1) := by decide +kernel
theorem dX11_job_41 : decode cX11_job 41 = .ok (.iload_n 2, 1) := by decide +kernel
theorem dX11_job_42 : decode cX11_job 42 = .ok (.invokevirtual 86, 3) := by decide +kernel
theorem dX11_job_45 : decode cX11_job 45 = .ok (.invokevirtual 90, 3) := by decide +kernel
theorem dX11_job_48 : decode cX11_job 48 = .ok (.ireturn, 1) := by decide +kernel
theorem dX11_set_0 : decode cX11_set 0 = .ok (.aload_n 0, 1) := by decide +kernel
theorem dX11_set_1 : decode cX11_set 1 = .ok (.getfield 10, 3) := by decide +kernel
theorem dX11_set_4 : decode cX11_set 4 = .ok (.iload_n 1, 1) := by decide +kernel
theorem dX11_set_5 : decode cX11_set 5 = .ok (.invokevirtual 93, 3) := by decide +kernel
theorem dX11_set_8 : decode cX11_set 8 = .ok (.ifCond .eq 11, 3) := by decide +kernel
theorem dX11_set_11 : decode cX11_set 11 = .ok (.iload_n 2, 1) := by decide +kernel
theorem dX11_set_12 : decode cX11_set 12 = .ok (.iload_n 3, 1) := by decide +kernel
theorem dX11_set_13 : decode cX11_set 13 = .ok (.invokestatic 74, 3) := by decide +kernel
theorem dX11_set_16 : decode cX11_set 16 = .ok (.ifCond .ne 9, 3) := by decide +kernel
theorem dX11_set_19 : decode cX11_set 19 = .ok (.aload_n 0, 1) := by decide +kernel
theorem dX11_set_20 : decode cX11_set 20 = .ok (.iconst 1, 1) := by decide +kernel
theorem dX11_set_21 : decode cX11_set 21 = .ok (.invokevirtual 78, 3) := by decide +kernel
theorem dX11_set_24 : decode cX11_set 24 = .ok (.ireturn, 1) := by decide +kernel
theorem dX11_set_25 : decode cX11_set 25 = .ok (.aload_n 0, 1) := by decide +kernel
theorem dX11_set_26 : decode cX11_set 26 = .ok (.getfield 10, 3) := by decide +kernel
theorem dX11_set_29 : decode cX11_set 29 = .ok (.iload_n 1, 1) := by decide +kernel
theorem dX11_set_30 : decode cX11_set 30 = .ok (.iload_n 2, 1) := by decide +kernel
theorem dX11_set_31 : decode cX11_set 31 = .ok (.invokevirtual 97, 3) := by decide +kernel
theorem dX11_set_34 : decode cX11_set 34 = .ok (.istore 4, 2) := by decide +kernel
theorem dX11_set_36 : decode cX11_set 36 = .ok (.aload_n 0, 1) := by decide +kernel
theorem dX11_set_37 : decode cX11_set 37 = .ok (.getfield 10, 3) := by decide +kernel
theorem dX11_set_40 : decode cX11_set 40 = .ok (.iload_n 1, 1) := by decide +kernel
theorem dX11_set_41 : decode cX11_set 41 = .ok (.iload_n 2, 1) := by decide +kernel
theorem dX11_set_42 : decode cX11_set 42 = .ok (.iload_n 3, 1) := by decide +kernel
theorem dX11_set_43 : decode cX11_set 43 = .ok (.invokevirtual 100, 3) := by decide +kernel
theorem dX11_set_46 : decode cX11_set 46 = .ok (.aload_n 0, 1) := by decide +kernel
theorem dX11_set_47 : decode cX11_set 47 = .ok (.getfield 33, 3) := by decide +kernel
theorem dX11_set_50 : decode cX11_set 50 = .ok (.iconst 1, 1) := by decide +kernel
theorem dX11_set_51 : decode cX11_set 51 = .ok (.iload_n 1, 1) := by decide +kernel
theorem dX11_set_52 : decode cX11_set 52 = .ok (.iload_n 2, 1) := by decide +kernel
theorem dX11_set_53 : decode cX11_set 53 = .ok (.iload 4, 2) := by decide +kernel
theorem dX11_set_55 : decode cX11_set 55 = .ok (.invokevirtual 104, 3) := by decide +kernel
theorem dX11_set_58 : decode cX11_set 58 = .ok (.aload_n 0, 1) := by decide +kernel
theorem dX11_set_59 : decode cX11_set 59 = .ok (.iload 4, 2) := by decide +kernel
theorem dX11_set_61 : decode cX11_set 61 = .ok (.invokevirtual 90, 3) := by decide +kernel
theorem dX11_set_64 : decode cX11_set 64 = .ok (.ireturn, 1) := by decide +kernel
theorem dX11_lay_0 : decode cX11_lay 0 = .ok (.aload_n 0, 1) := by decide +kernel
theorem dX11_lay_1 : decode cX11_lay 1 = .ok (.getfield 10, 3) := by decide +kernel
theorem dX11_lay_4 : decode cX11_lay 4 = .ok (.iload_n 1, 1) := by decide +kernel
theorem dX11_lay_5 : decode cX11_lay 5 = .ok (.invokevirtual 93, 3) := by decide +kernel
theorem dX11_lay_8 : decode cX11_lay 8 = .ok (.ifCond .eq 14, 3) := by decide +kernel
theorem dX11_lay_11 : decode cX11_lay 11 = .ok (.aload_n 0, 1) := by decide +kernel
theorem dX11_lay_12 : decode cX11_lay 12 = .ok (.getfield 10, 3) := by decide +kernel
theorem dX11_lay_15 : decode cX11_lay 15 = .ok (.iload_n 2, 1) := by decide +kernel
theorem dX11_lay_16 : decode cX11_lay 16 = .ok (.invokevirtual 93, 3) := by decide +kernel
theorem dX11_lay_19 : decode cX11_lay 19 = .ok (.ifCond .ne 9, 3) := by decide +kernel
theorem dX11_lay_22 : decode cX11_lay 22 = .ok (.aload_n 0, 1) := by decide +kernel
theorem dX11_lay_23 : decode cX11_lay 23 = .ok (.iconst 1, 1) := by decide +kernel
theorem dX11_lay_24 : decode cX11_lay 24 = .ok (.invokevirtual 78, 3) := by decide +kernel
theorem dX11_lay_27 : decode cX11_lay 27 = .ok (.ireturn, 1) := by decide +kernel
theorem dX11_lay_28 : decode cX11_lay 28 = .ok (.iload_n 1, 1) := by decide +kernel
theorem dX11_lay_29 : decode cX11_lay 29 = .ok (.iload_n 2, 1) := by decide +kernel
theorem dX11_lay_30 : decode cX11_lay 30 = .ok (.if_icmp .eq 27, 3) := by decide +kernel
theorem dX11_lay_33 : decode cX11_lay 33 = .ok (.aload_n 0, 1) := by decide +kernel
theorem dX11_lay_34 : decode cX11_lay 34 = .ok (.getfield 10, 3) := by decide +kernel
theorem dX11_lay_37 : decode cX11_lay 37 = .ok (.iload_n 1, 1) := by decide +kernel
theorem dX11_lay_38 : decode cX11_lay 38 = .ok (.iload_n 2, 1) := by decide +kernel
theorem dX11_lay_39 : decode cX11_lay 39 = .ok (.invokevirtual 108, 3) := by decide +kernel
theorem dX11_lay_42 : decode cX11_lay 42 = .ok (.ifCond .ne 15, 3) := by decide +kernel
theorem dX11_lay_45 : decode cX11_lay 45 = .ok (.aload_n 0, 1) := by decide +kernel
theorem dX11_lay_46 : decode cX11_lay 46 = .ok (.getfield 10, 3) := by decide +kernel
theorem dX11_lay_49 : decode cX11_lay 49 = .ok (.iload_n 2, 1) := by decide +kernel
theorem dX11_lay_50 : decode cX11_lay 50 = .ok (.iload_n 1, 1) := by decide +kernel
theorem dX11_lay_51 : decode cX11_lay 51 = .ok (.invokevirtual 111, 3) := by decide +kernel
theorem dX11_lay_54 : decode cX11_lay 54 = .ok (.ifCond .eq 9, 3) := by decide +kernel
theorem dX11_lay_57 : decode cX11_lay 57 = .ok (.aload_n 0, 1) := by decide +kernel
theorem dX11_lay_58 : decode cX11_lay 58 = .ok (.iconst 3, 1) := by decide +kernel
theorem dX11_lay_59 : decode cX11_lay 59 = .ok (.invokevirtual 78, 3) := by decide +kernel
theorem dX11_lay_62 : decode cX11_lay 62 = .ok (.ireturn, 1) := by decide +kernel
theorem dX11_lay_63 : decode cX11_lay 63 = .ok (.aload_n 0, 1) := by decide +kernel
theorem dX11_lay_64 : decode cX11_lay 64 = .ok (.getfield 10, 3) := by decide +kernel
theorem dX11_lay_67 : decode cX11_lay 67 = .ok (.iload_n 1, 1) := by decide +kernel
theorem dX11_lay_68 : decode cX11_lay 68 = .ok (.iload_n 2, 1) := by decide +kernel
theorem dX11_lay_69 : decode cX11_lay 69 = .ok (.invokevirtual 114, 3) := by decide +kernel
theorem dX11_lay_72 : decode cX11_lay 72 = .ok (.aload_n 0, 1) := by decide +kernel
theorem dX11_lay_73 : decode cX11_lay 73 = .ok (.getfield 33, 3) := by decide +kernel
theorem dX11_lay_76 : decode cX11_lay 76 = .ok (.iconst 2, 1) := by decide +kernel
theorem dX11_lay_77 : decode cX11_lay 77 = .ok (.iload_n 1, 1) := by decide +kernel
theorem dX11_lay_78 : decode cX11_lay 78 = .ok (.iload_n 2, 1) := by decide +kernel
theorem dX11_lay_79 : decode cX11_lay 79 = .ok (.iconst 0, 1) := by decide +kernel
theorem dX11_lay_80 : decode cX11_lay 80 = .ok (.invokevirtual 104, 3) := by decide +kernel
theorem dX11_lay_83 : decode cX11_lay 83 = .ok (.aload_n 0, 1) := by decide +kernel
theorem dX11_lay_84 : decode cX11_lay 84 = .ok (.iconst 1, 1) := by decide +kernel
theorem dX11_lay_85 : decode cX11_lay 85 = .ok (.invokevirtual 90, 3) := by decide +kernel
theorem dX11_lay_88 : decode cX11_lay 88 = .ok (.ireturn, 1) := by decide +kernel
theorem dX11_free_0 : decode cX11_free 0 = .ok (.aload_n 0, 1) := by decide +kernel
theorem dX11_free_1 : decode cX11_free 1 = .ok (.getfield 10, 3) := by decide +kernel
theorem dX11_free_4 : decode cX11_free 4 = .ok (.iload_n 1, 1) := by decide +kernel
theorem dX11_free_5 : decode cX11_free 5 = .ok (.invokevirtual 93, 3) := by decide +kernel
theorem dX11_free_8 : decode cX11_free 8 = .ok (.ifCond .eq 14, 3) := by decide +kernel
theorem dX11_free_11 : decode cX11_free 11 = .ok (.aload_n 0, 1) := by decide +kernel
theorem dX11_free_12 : decode cX11_free 12 = .ok (.getfield 10, 3) := by decide +kernel
theorem dX11_free_15 : decode cX11_free 15 = .ok (.iload_n 2, 1) := by decide +kernel
theorem dX11_free_16 : decode cX11_free 16 = .ok (.invokevirtual 93, 3) := by decide +kernel
theorem dX11_free_19 : decode cX11_free 19 = .ok (.ifCond .ne 9, 3) := by decide +kernel
theorem dX11_free_22 : decode cX11_free 22 = .ok (.aload_n 0, 1) := by decide +kernel
theorem dX11_free_23 : decode cX11_free 23 = .ok (.iconst 1, 1) := by decide +kernel
theorem dX11_free_24 : decode cX11_free 24 = .ok (.invokevirtual 78, 3) := by decide +kernel
theorem dX11_free_27 : decode cX11_free 27 = .ok (.ireturn, 1) := by decide +kernel
theorem dX11_free_28 : decode cX11_free 28 = .ok (.aload_n 0, 1) := by decide +kernel
theorem dX11_free_29 : decode cX11_free 29 = .ok (.getfield 10, 3) := by decide +kernel
theorem dX11_free_32 : decode cX11_free 32 = .ok (.iload_n 1, 1) := by decide +kernel
theorem dX11_free_33 : decode cX11_free 33 = .ok (.iload_n 2, 1) := by decide +kernel
theorem dX11_free_34 : decode cX11_free 34 = .ok (.invokevirtual 108, 3) := by decide +kernel
theorem dX11_free_37 : decode cX11_free 37 = .ok (.ifCond .ne 9, 3) := by decide +kernel
theorem dX11_free_40 : decode cX11_free 40 = .ok (.aload_n 0, 1) := by decide +kernel
theorem dX11_free_41 : decode cX11_free 41 = .ok (.iconst 3, 1) := by decide +kernel
theorem dX11_free_42 : decode cX11_free 42 = .ok (.invokevirtual 78, 3) := by decide +kernel
theorem dX11_free_45 : decode cX11_free 45 = .ok (.ireturn, 1) := by decide +kernel
theorem dX11_free_46 : decode cX11_free 46 = .ok (.aload_n 0, 1) := by decide +kernel
theorem dX11_free_47 : decode cX11_free 47 = .ok (.getfield 10, 3) := by decide +kernel
theorem dX11_free_50 : decode cX11_free 50 = .ok (.iload_n 1, 1) := by decide +kernel
theorem dX11_free_51 : decode cX11_free 51 = .ok (.iload_n 2, 1) := by decide +kernel
theorem dX11_free_52 : decode cX11_free 52 = .ok (.invokevirtual 118, 3) := by decide +kernel
theorem dX11_free_55 : decode cX11_free 55 = .ok (.aload_n 0, 1) := by decide +kernel
theorem dX11_free_56 : decode cX11_free 56 = .ok (.getfield 33, 3) := by decide +kernel
theorem dX11_free_59 : decode cX11_free 59 = .ok (.iconst 3, 1) := by decide +kernel
theorem dX11_free_60 : decode cX11_free 60 = .ok (.iload_n 1, 1) := by decide +kernel
theorem dX11_free_61 : decode cX11_free 61 = .ok (.iload_n 2, 1) := by decide +kernel
theorem dX11_free_62 : decode cX11_free 62 = .ok (.iconst 0, 1) := by decide +kernel
theorem dX11_free_63 : decode cX11_free 63 = .ok (.invokevirtual 104, 3) := by decide +kernel
theorem dX11_free_66 : decode cX11_free 66 = .ok (.aload_n 0, 1) := by decide +kernel
theorem dX11_free_67 : decode cX11_free 67 = .ok (.iconst 1, 1) := by decide +kernel
theorem dX11_free_68 : decode cX11_free 68 = .ok (.invokevirtual 90, 3) := by decide +kernel
theorem dX11_free_71 : decode cX11_free 71 = .ok (.ireturn, 1) := by decide +kernel
theorem dX11_put_0 : decode cX11_put 0 = .ok (.aload_n 0, 1) := by decide +kernel
theorem dX11_put_1 : decode cX11_put 1 = .ok (.getfield 10, 3) := by decide +kernel
theorem dX11_put_4 : decode cX11_put 4 = .ok (.iload_n 1, 1) := by decide +kernel
theorem dX11_put_5 : decode cX11_put 5 = .ok (.invokevirtual 93, 3) := by decide +kernel
theorem dX11_put_8 : decode cX11_put 8 = .ok (.ifCond .ne 9, 3) := by decide +kernel
theorem dX11_put_11 : decode cX11_put 11 = .ok (.aload_n 0, 1) := by decide +kernel
theorem dX11_put_12 : decode cX11_put 12 = .ok (.iconst 1, 1) := by decide +kernel
theorem dX11_put_13 : decode cX11_put 13 = .ok (.invokevirtual 78, 3) := by decide +kernel
theorem dX11_put_16 : decode cX11_put 16 = .ok (.ireturn, 1) := by decide +kernel
theorem dX11_put_17 : decode cX11_put 17 = .ok (.aload_n 0, 1) := by decide +kernel
theorem dX11_put_18 : decode cX11_put 18 = .ok (.getfield 26, 3) := by decide +kernel
theorem dX11_put_21 : decode cX11_put 21 = .ok (.iload_n 1, 1) := by decide +kernel
theorem dX11_put_22 : decode cX11_put 22 = .ok (.invokevirtual 121, 3) := by decide +kernel
theorem dX11_put_25 : decode cX11_put 25 = .ok (.iconst (-1), 1) := by decide +kernel
theorem dX11_put_26 : decode cX11_put 26 = .ok (.if_icmp .eq 9, 3) := by decide +kernel
theorem dX11_put_29 : decode cX11_put 29 = .ok (.aload_n 0, 1) := by decide +kernel
theorem dX11_put_30 : decode cX11_put 30 = .ok (.iconst 3, 1) := by decide +kernel
theorem dX11_put_31 : decode cX11_put 31 = .ok (.invokevirtual 78, 3) := by decide +kernel
theorem dX11_put_34 : decode cX11_put 34 = .ok (.ireturn, 1) := by decide +kernel
theorem dX11_put_35 : decode cX11_put 35 = .ok (.aload_n 0, 1) := by decide +kernel
theorem dX11_put_36 : decode cX11_put 36 = .ok (.getfield 26, 3) := by decide +kernel
theorem dX11_put_39 : decode cX11_put 39 = .ok (.iload_n 1, 1) := by decide +kernel
theorem dX11_put_40 : decode cX11_put 40 = .ok (.invokevirtual 124, 3) := by decide +kernel
theorem dX11_put_43 : decode cX11_put 43 = .ok (.aload_n 0, 1) := by decide +kernel
theorem dX11_put_44 : decode cX11_put 44 = .ok (.aload_n 0, 1) := by decide +kernel
theorem dX11_put_45 : decode cX11_put 45 = .ok (.getfield 26, 3) := by decide +kernel
theorem dX11_put_48 : decode cX11_put 48 = .ok (.invokevirtual 128, 3) := by decide +kernel
theorem dX11_put_51 : decode cX11_put 51 = .ok (.invokevirtual 90, 3) := by decide +kernel
theorem dX11_put_54 : decode cX11_put 54 = .ok (.ireturn, 1) := by decide +kernel
theorem dX11_clear_0 : decode cX11_clear 0 = .ok (.aload_n 0, 1) := by decide +kernel
theorem dX11_clear_1 : decode cX11_clear 1 = .ok (.getfield 26, 3) := by decide +kernel
theorem dX11_clear_4 : decode cX11_clear 4 = .ok (.invokevirtual 128, 3) := by decide +kernel
theorem dX11_clear_7 : decode cX11_clear 7 = .ok (.istore_n 1, 1) := by decide +kernel
theorem dX11_clear_8 : decode cX11_clear 8 = .ok (.aload_n 0, 1) := by decide +kernel
theorem dX11_clear_9 : decode cX11_clear 9 = .ok (.getfield 26, 3) := by decide +kernel
theorem dX11_clear_12 : decode cX11_clear 12 = .ok (.invokevirtual 132, 3) := by decide +kernel
theorem dX11_clear_15 : decode cX11_clear 15 = .ok (.aload_n 0, 1) := by decide +kernel
theorem dX11_clear_16 : decode cX11_clear 16 = .ok (.iload_n 1, 1) := by decide +kernel
theorem dX11_clear_17 : decode cX11_clear 17 = .ok (.invokevirtual 90, 3) := by decide +kernel
theorem dX11_clear_20 : decode cX11_clear 20 = .ok (.ireturn, 1) := by decide +kernel
theorem dX11_told_0 : decode cX11_told 0 = .ok (.aload_n 0, 1) := by decide +kernel
theorem dX11_told_1 : decode cX11_told 1 = .ok (.getfield 10, 3) := by decide +kernel
theorem dX11_told_4 : decode cX11_told 4 = .ok (.iload_n 1, 1) := by decide +kernel
theorem dX11_told_5 : decode cX11_told 5 = .ok (.invokevirtual 93, 3) := by decide +kernel
theorem dX11_told_8 : decode cX11_told 8 = .ok (.ifCond .ne 5, 3) := by decide +kernel
theorem dX11_told_11 : decode cX11_told 11 = .ok (.iconst (-1), 1) := by decide +kernel
theorem dX11_told_12 : decode cX11_told 12 = .ok (.ireturn, 1) := by decide +kernel
theorem dX11_told_13 : decode cX11_told 13 = .ok (.iload_n 2, 1) := by decide +kernel
theorem dX11_told_14 : decode cX11_told 14 = .ok (.tableswitch 111 0 7 #[46, 46, 46, 56, 65, 77, 89, 98], 46) := by decide +kernel
theorem dX11_told_60 : decode cX11_told 60 = .ok (.aload_n 0, 1) := by decide +kernel
theorem dX11_told_61 : decode cX11_told 61 = .ok (.getfield 10, 3) := by decide +kernel
theorem dX11_told_64 : decode cX11_told 64 = .ok (.iload_n 1, 1) := by decide +kernel
theorem dX11_told_65 : decode cX11_told 65 = .ok (.iload_n 2, 1) := by decide +kernel
theorem dX11_told_66 : decode cX11_told 66 = .ok (.invokevirtual 97, 3) := by decide +kernel
theorem dX11_told_69 : decode cX11_told 69 = .ok (.ireturn, 1) := by decide +kernel
theorem dX11_told_70 : decode cX11_told 70 = .ok (.aload_n 0, 1) := by decide +kernel
theorem dX11_told_71 : decode cX11_told 71 = .ok (.getfield 10, 3) := by decide +kernel
theorem dX11_told_74 : decode cX11_told 74 = .ok (.iload_n 1, 1) := by decide +kernel
theorem dX11_told_75 : decode cX11_told 75 = .ok (.invokevirtual 135, 3) := by decide +kernel
theorem dX11_told_78 : decode cX11_told 78 = .ok (.ireturn, 1) := by decide +kernel
theorem dX11_told_79 : decode cX11_told 79 = .ok (.aload_n 0, 1) := by decide +kernel
theorem dX11_told_80 : decode cX11_told 80 = .ok (.getfield 10, 3) := by decide +kernel
theorem dX11_told_83 : decode cX11_told 83 = .ok (.iload_n 1, 1) := by decide +kernel
theorem dX11_told_84 : decode cX11_told 84 = .ok (.invokevirtual 138, 3) := by decide +kernel
theorem dX11_told_87 : decode cX11_told 87 = .ok (.invokestatic 141, 3) := by decide +kernel
theorem dX11_told_90 : decode cX11_told 90 = .ok (.ireturn, 1) := by decide +kernel
theorem dX11_told_91 : decode cX11_told 91 = .ok (.aload_n 0, 1) := by decide +kernel
theorem dX11_told_92 : decode cX11_told 92 = .ok (.getfield 10, 3) := by decide +kernel
theorem dX11_told_95 : decode cX11_told 95 = .ok (.iload_n 1, 1) := by decide +kernel
theorem dX11_told_96 : decode cX11_told 96 = .ok (.invokevirtual 146, 3) := by decide +kernel
theorem dX11_told_99 : decode cX11_told 99 = .ok (.invokestatic 141, 3) := by decide +kernel
theorem dX11_told_102 : decode cX11_told 102 = .ok (.ireturn, 1) := by decide +kernel
theorem dX11_told_103 : decode cX11_told 103 = .ok (.aload_n 0, 1) := by decide +kernel
theorem dX11_told_104 : decode cX11_told 104 = .ok (.getfield 26, 3) := by decide +kernel
theorem dX11_told_107 : decode cX11_told 107 = .ok (.iload_n 1, 1) := by decide +kernel
theorem dX11_told_108 : decode cX11_told 108 = .ok (.invokevirtual 121, 3) := by decide +kernel
theorem dX11_told_111 : decode cX11_told 111 = .ok (.ireturn, 1) := by decide +kernel
theorem dX11_told_112 : decode cX11_told 112 = .ok (.aload_n 0, 1) := by decide +kernel
theorem dX11_told_113 : decode cX11_told 113 = .ok (.getfield 19, 3) := by decide +kernel
theorem dX11_told_116 : decode cX11_told 116 = .ok (.aload_n 0, 1) := by decide +kernel
theorem dX11_told_117 : decode cX11_told 117 = .ok (.getfield 10, 3) := by decide +kernel
theorem dX11_told_120 : decode cX11_told 120 = .ok (.iload_n 1, 1) := by decide +kernel
theorem dX11_told_121 : decode cX11_told 121 = .ok (.invokevirtual 149, 3) := by decide +kernel
theorem dX11_told_124 : decode cX11_told 124 = .ok (.ireturn, 1) := by decide +kernel
theorem dX11_told_125 : decode cX11_told 125 = .ok (.iconst (-1), 1) := by decide +kernel
theorem dX11_told_126 : decode cX11_told 126 = .ok (.ireturn, 1) := by decide +kernel
theorem dX11_ahead_0 : decode cX11_ahead 0 = .ok (.aload_n 0, 1) := by decide +kernel
theorem dX11_ahead_1 : decode cX11_ahead 1 = .ok (.getfield 10, 3) := by decide +kernel
theorem dX11_ahead_4 : decode cX11_ahead 4 = .ok (.iload_n 1, 1) := by decide +kernel
theorem dX11_ahead_5 : decode cX11_ahead 5 = .ok (.invokevirtual 93, 3) := by decide +kernel
theorem dX11_ahead_8 : decode cX11_ahead 8 = .ok (.ifCond .eq 14, 3) := by decide +kernel
theorem dX11_ahead_11 : decode cX11_ahead 11 = .ok (.aload_n 0, 1) := by decide +kernel
theorem dX11_ahead_12 : decode cX11_ahead 12 = .ok (.getfield 10, 3) := by decide +kernel
theorem dX11_ahead_15 : decode cX11_ahead 15 = .ok (.iload_n 2, 1) := by decide +kernel
theorem dX11_ahead_16 : decode cX11_ahead 16 = .ok (.invokevirtual 93, 3) := by decide +kernel
theorem dX11_ahead_19 : decode cX11_ahead 19 = .ok (.ifCond .ne 5, 3) := by decide +kernel
theorem dX11_ahead_22 : decode cX11_ahead 22 = .ok (.iconst (-1), 1) := by decide +kernel
theorem dX11_ahead_23 : decode cX11_ahead 23 = .ok (.ireturn, 1) := by decide +kernel
theorem dX11_ahead_24 : decode cX11_ahead 24 = .ok (.aload_n 0, 1) := by decide +kernel
theorem dX11_ahead_25 : decode cX11_ahead 25 = .ok (.getfield 10, 3) := by decide +kernel
theorem dX11_ahead_28 : decode cX11_ahead 28 = .ok (.iload_n 1, 1) := by decide +kernel
theorem dX11_ahead_29 : decode cX11_ahead 29 = .ok (.iload_n 2, 1) := by decide +kernel
theorem dX11_ahead_30 : decode cX11_ahead 30 = .ok (.invokevirtual 108, 3) := by decide +kernel
theorem dX11_ahead_33 : decode cX11_ahead 33 = .ok (.ifCond .eq 5, 3) := by decide +kernel
theorem dX11_ahead_36 : decode cX11_ahead 36 = .ok (.iconst 2, 1) := by decide +kernel
theorem dX11_ahead_37 : decode cX11_ahead 37 = .ok (.ireturn, 1) := by decide +kernel
theorem dX11_ahead_38 : decode cX11_ahead 38 = .ok (.aload_n 0, 1) := by decide +kernel
theorem dX11_ahead_39 : decode cX11_ahead 39 = .ok (.getfield 10, 3) := by decide +kernel
theorem dX11_ahead_42 : decode cX11_ahead 42 = .ok (.iload_n 1, 1) := by decide +kernel
theorem dX11_ahead_43 : decode cX11_ahead 43 = .ok (.iload_n 2, 1) := by decide +kernel
theorem dX11_ahead_44 : decode cX11_ahead 44 = .ok (.invokevirtual 111, 3) := by decide +kernel
theorem dX11_ahead_47 : decode cX11_ahead 47 = .ok (.invokestatic 153, 3) := by decide +kernel
theorem dX11_ahead_50 : decode cX11_ahead 50 = .ok (.ireturn, 1) := by decide +kernel
theorem dX11_count_0 : decode cX11_count 0 = .ok (.iload_n 1, 1) := by decide +kernel
theorem dX11_count_1 : decode cX11_count 1 = .ok (.tableswitch 103 0 6 #[43, 51, 59, 67, 79, 87, 95], 43) := by decide +kernel
theorem dX11_count_44 : decode cX11_count 44 = .ok (.aload_n 0, 1) := by decide +kernel
theorem dX11_count_45 : decode cX11_count 45 = .ok (.getfield 10, 3) := by decide +kernel
theorem dX11_count_48 : decode cX11_count 48 = .ok (.invokevirtual 157, 3) := by decide +kernel
theorem dX11_count_51 : decode cX11_count 51 = .ok (.ireturn, 1) := by decide +kernel
theorem dX11_count_52 : decode cX11_count 52 = .ok (.aload_n 0, 1) := by decide +kernel
theorem dX11_count_53 : decode cX11_count 53 = .ok (.getfield 10, 3) := by decide +kernel
theorem dX11_count_56 : decode cX11_count 56 = .ok (.invokevirtual 160, 3) := by decide +kernel
theorem dX11_count_59 : decode cX11_count 59 = .ok (.ireturn, 1) := by decide +kernel
theorem dX11_count_60 : decode cX11_count 60 = .ok (.aload_n 0, 1) := by decide +kernel
theorem dX11_count_61 : decode cX11_count 61 = .ok (.getfield 26, 3) := by decide +kernel
theorem dX11_count_64 : decode cX11_count 64 = .ok (.invokevirtual 128, 3) := by decide +kernel
theorem dX11_count_67 : decode cX11_count 67 = .ok (.ireturn, 1) := by decide +kernel
theorem dX11_count_68 : decode cX11_count 68 = .ok (.aload_n 0, 1) := by decide +kernel
theorem dX11_count_69 : decode cX11_count 69 = .ok (.getfield 19, 3) := by decide +kernel
theorem dX11_count_72 : decode cX11_count 72 = .ok (.aload_n 0, 1) := by decide +kernel
theorem dX11_count_73 : decode cX11_count 73 = .ok (.getfield 10, 3) := by decide +kernel
theorem dX11_count_76 : decode cX11_count 76 = .ok (.invokevirtual 163, 3) := by decide +kernel
theorem dX11_count_79 : decode cX11_count 79 = .ok (.ireturn, 1) := by decide +kernel
theorem dX11_count_80 : decode cX11_count 80 = .ok (.aload_n 0, 1) := by decide +kernel
theorem dX11_count_81 : decode cX11_count 81 = .ok (.getfield 10, 3) := by decide +kernel
theorem dX11_count_84 : decode cX11_count 84 = .ok (.invokevirtual 167, 3) := by decide +kernel
theorem dX11_count_87 : decode cX11_count 87 = .ok (.ireturn, 1) := by decide +kernel
theorem dX11_count_88 : decode cX11_count 88 = .ok (.aload_n 0, 1) := by decide +kernel
theorem dX11_count_89 : decode cX11_count 89 = .ok (.getfield 40, 3) := by decide +kernel
theorem dX11_count_92 : decode cX11_count 92 = .ok (.invokevirtual 170, 3) := by decide +kernel
theorem dX11_count_95 : decode cX11_count 95 = .ok (.ireturn, 1) := by decide +kernel
theorem dX11_count_96 : decode cX11_count 96 = .ok (.aload_n 0, 1) := by decide +kernel
theorem dX11_count_97 : decode cX11_count 97 = .ok (.getfield 33, 3) := by decide +kernel
theorem dX11_count_100 : decode cX11_count 100 = .ok (.invokevirtual 173, 3) := by decide +kernel
theorem dX11_count_103 : decode cX11_count 103 = .ok (.ireturn, 1) := by decide +kernel
theorem dX11_count_104 : decode cX11_count 104 = .ok (.iconst (-1), 1) := by decide +kernel
theorem dX11_count_105 : decode cX11_count 105 = .ok (.ireturn, 1) := by decide +kernel
theorem dX11_keeps_0 : decode cX11_keeps 0 = .ok (.aload_n 0, 1) := by decide +kernel
theorem dX11_keeps_1 : decode cX11_keeps 1 = .ok (.getfield 26, 3) := by decide +kernel
theorem dX11_keeps_4 : decode cX11_keeps 4 = .ok (.aload_n 0, 1) := by decide +kernel
theorem dX11_keeps_5 : decode cX11_keeps 5 = .ok (.getfield 10, 3) := by decide +kernel
theorem dX11_keeps_8 : decode cX11_keeps 8 = .ok (.invokevirtual 174, 3) := by decide +kernel
theorem dX11_keeps_11 : decode cX11_keeps 11 = .ok (.invokestatic 153, 3) := by decide +kernel
theorem dX11_keeps_14 : decode cX11_keeps 14 = .ok (.ireturn, 1) := by decide +kernel
theorem dX11_why_0 : decode cX11_why 0 = .ok (.iload_n 1, 1) := by decide +kernel
theorem dX11_why_1 : decode cX11_why 1 = .ok (.ifCond .lt 22, 3) := by decide +kernel
theorem dX11_why_4 : decode cX11_why 4 = .ok (.iload_n 1, 1) := by decide +kernel
theorem dX11_why_5 : decode cX11_why 5 = .ok (.iconst 1, 1) := by decide +kernel
theorem dX11_why_6 : decode cX11_why 6 = .ok (.if_icmp .gt 17, 3) := by decide +kernel
theorem dX11_why_9 : decode cX11_why 9 = .ok (.aload_n 0, 1) := by decide +kernel
theorem dX11_why_10 : decode cX11_why 10 = .ok (.getfield 26, 3) := by decide +kernel
theorem dX11_why_13 : decode cX11_why 13 = .ok (.aload_n 0, 1) := by decide +kernel
theorem dX11_why_14 : decode cX11_why 14 = .ok (.getfield 10, 3) := by decide +kernel
theorem dX11_why_17 : decode cX11_why 17 = .ok (.invokevirtual 174, 3) := by decide +kernel
theorem dX11_why_20 : decode cX11_why 20 = .ok (.ifCond .eq 5, 3) := by decide +kernel
theorem dX11_why_23 : decode cX11_why 23 = .ok (.iconst (-1), 1) := by decide +kernel
theorem dX11_why_24 : decode cX11_why 24 = .ok (.ireturn, 1) := by decide +kernel
theorem dX11_why_25 : decode cX11_why 25 = .ok (.aload_n 0, 1) := by decide +kernel
theorem dX11_why_26 : decode cX11_why 26 = .ok (.getfield 26, 3) := by decide +kernel
theorem dX11_why_29 : decode cX11_why 29 = .ok (.aload_n 0, 1) := by decide +kernel
theorem dX11_why_30 : decode cX11_why 30 = .ok (.getfield 10, 3) := by decide +kernel
theorem dX11_why_33 : decode cX11_why 33 = .ok (.invokevirtual 178, 3) := by decide +kernel
theorem dX11_why_36 : decode cX11_why 36 = .ok (.istore_n 2, 1) := by decide +kernel
theorem dX11_why_37 : decode cX11_why 37 = .ok (.iload_n 1, 1) := by decide +kernel
theorem dX11_why_38 : decode cX11_why 38 = .ok (.ifCond .ne 22, 3) := by decide +kernel
theorem dX11_why_41 : decode cX11_why 41 = .ok (.iload_n 2, 1) := by decide +kernel
theorem dX11_why_42 : decode cX11_why 42 = .ok (.iconst (-1), 1) := by decide +kernel
theorem dX11_why_43 : decode cX11_why 43 = .ok (.if_icmp .ne 8, 3) := by decide +kernel
theorem dX11_why_46 : decode cX11_why 46 = .ok (.bipush (-2), 2) := by decide +kernel
theorem dX11_why_48 : decode cX11_why 48 = .ok (.goto 11, 3) := by decide +kernel
theorem dX11_why_51 : decode cX11_why 51 = .ok (.aload_n 0, 1) := by decide +kernel
theorem dX11_why_52 : decode cX11_why 52 = .ok (.getfield 26, 3) := by decide +kernel
theorem dX11_why_55 : decode cX11_why 55 = .ok (.iload_n 2, 1) := by decide +kernel
theorem dX11_why_56 : decode cX11_why 56 = .ok (.invokevirtual 181, 3) := by decide +kernel
theorem dX11_why_59 : decode cX11_why 59 = .ok (.ireturn, 1) := by decide +kernel
theorem dX11_why_60 : decode cX11_why 60 = .ok (.iload_n 2, 1) := by decide +kernel
theorem dX11_why_61 : decode cX11_why 61 = .ok (.iconst (-1), 1) := by decide +kernel
theorem dX11_why_62 : decode cX11_why 62 = .ok (.if_icmp .ne 30, 3) := by decide +kernel
theorem dX11_why_65 : decode cX11_why 65 = .ok (.aload_n 0, 1) := by decide +kernel
theorem dX11_why_66 : decode cX11_why 66 = .ok (.getfield 10, 3) := by decide +kernel
theorem dX11_why_69 : decode cX11_why 69 = .ok (.invokevirtual 184, 3) := by decide +kernel
theorem dX11_why_72 : decode cX11_why 72 = .ok (.aload_n 0, 1) := by decide +kernel
theorem dX11_why_73 : decode cX11_why 73 = .ok (.getfield 26, 3) := by decide +kernel
theorem dX11_why_76 : decode cX11_why 76 = .ok (.aload_n 0, 1) := by decide +kernel
theorem dX11_why_77 : decode cX11_why 77 = .ok (.getfield 26, 3) := by decide +kernel
theorem dX11_why_80 : decode cX11_why 80 = .ok (.invokevirtual 128, 3) := by decide +kernel
theorem dX11_why_83 : decode cX11_why 83 = .ok (.invokevirtual 187, 3) := by decide +kernel
theorem dX11_why_86 : decode cX11_why 86 = .ok (.iconst (-1), 1) := by decide +kernel
theorem dX11_why_87 : decode cX11_why 87 = .ok (.ixor, 1) := by decide +kernel
theorem dX11_why_88 : decode cX11_why 88 = .ok (.iand, 1) := by decide +kernel
theorem dX11_why_89 : decode cX11_why 89 = .ok (.goto 15, 3) := by decide +kernel
theorem dX11_why_92 : decode cX11_why 92 = .ok (.aload_n 0, 1) := by decide +kernel
theorem dX11_why_93 : decode cX11_why 93 = .ok (.getfield 26, 3) := by decide +kernel
theorem dX11_why_96 : decode cX11_why 96 = .ok (.aload_n 0, 1) := by decide +kernel
theorem dX11_why_97 : decode cX11_why 97 = .ok (.getfield 10, 3) := by decide +kernel
theorem dX11_why_100 : decode cX11_why 100 = .ok (.iload_n 2, 1) := by decide +kernel
theorem dX11_why_101 : decode cX11_why 101 = .ok (.invokevirtual 190, 3) := by decide +kernel
theorem dX11_why_104 : decode cX11_why 104 = .ok (.istore_n 3, 1) := by decide +kernel
theorem dX11_why_105 : decode cX11_why 105 = .ok (.iload_n 3, 1) := by decide +kernel
theorem dX11_why_106 : decode cX11_why 106 = .ok (.invokestatic 193, 3) := by decide +kernel
theorem dX11_why_109 : decode cX11_why 109 = .ok (.ireturn, 1) := by decide +kernel
theorem dX11_cost_0 : decode cX11_cost 0 = .ok (.aload_n 0, 1) := by decide +kernel
theorem dX11_cost_1 : decode cX11_cost 1 = .ok (.getfield 26, 3) := by decide +kernel
theorem dX11_cost_4 : decode cX11_cost 4 = .ok (.aload_n 0, 1) := by decide +kernel
theorem dX11_cost_5 : decode cX11_cost 5 = .ok (.getfield 10, 3) := by decide +kernel
theorem dX11_cost_8 : decode cX11_cost 8 = .ok (.invokevirtual 196, 3) := by decide +kernel
theorem dX11_cost_11 : decode cX11_cost 11 = .ok (.ireturn, 1) := by decide +kernel
theorem dX11_swap_0 : decode cX11_swap 0 = .ok (.iload_n 1, 1) := by decide +kernel
theorem dX11_swap_1 : decode cX11_swap 1 = .ok (.ifCond .lt 16, 3) := by decide +kernel
theorem dX11_swap_4 : decode cX11_swap 4 = .ok (.iload_n 1, 1) := by decide +kernel
theorem dX11_swap_5 : decode cX11_swap 5 = .ok (.aload_n 0, 1) := by decide +kernel
theorem dX11_swap_6 : decode cX11_swap 6 = .ok (.getfield 26, 3) := by decide +kernel
theorem dX11_swap_9 : decode cX11_swap 9 = .ok (.invokevirtual 128, 3) := by decide +kernel
theorem dX11_swap_12 : decode cX11_swap 12 = .ok (.iconst 1, 1) := by decide +kernel
theorem dX11_swap_13 : decode cX11_swap 13 = .ok (.isub, 1) := by decide +kernel
theorem dX11_swap_14 : decode cX11_swap 14 = .ok (.if_icmp .lt 6, 3) := by decide +kernel
theorem dX11_swap_17 : decode cX11_swap 17 = .ok (.ldc 199, 2) := by decide +kernel
theorem dX11_swap_19 : decode cX11_swap 19 = .ok (.ireturn, 1) := by decide +kernel
theorem dX11_swap_20 : decode cX11_swap 20 = .ok (.aload_n 0, 1) := by decide +kernel
theorem dX11_swap_21 : decode cX11_swap 21 = .ok (.getfield 26, 3) := by decide +kernel
theorem dX11_swap_24 : decode cX11_swap 24 = .ok (.aload_n 0, 1) := by decide +kernel
theorem dX11_swap_25 : decode cX11_swap 25 = .ok (.getfield 10, 3) := by decide +kernel
theorem dX11_swap_28 : decode cX11_swap 28 = .ok (.invokevirtual 196, 3) := by decide +kernel
theorem dX11_swap_31 : decode cX11_swap 31 = .ok (.istore_n 2, 1) := by decide +kernel
theorem dX11_swap_32 : decode cX11_swap 32 = .ok (.aload_n 0, 1) := by decide +kernel
theorem dX11_swap_33 : decode cX11_swap 33 = .ok (.getfield 26, 3) := by decide +kernel
theorem dX11_swap_36 : decode cX11_swap 36 = .ok (.iload_n 1, 1) := by decide +kernel
theorem dX11_swap_37 : decode cX11_swap 37 = .ok (.invokevirtual 200, 3) := by decide +kernel
theorem dX11_swap_40 : decode cX11_swap 40 = .ok (.aload_n 0, 1) := by decide +kernel
theorem dX11_swap_41 : decode cX11_swap 41 = .ok (.getfield 26, 3) := by decide +kernel
theorem dX11_swap_44 : decode cX11_swap 44 = .ok (.aload_n 0, 1) := by decide +kernel
theorem dX11_swap_45 : decode cX11_swap 45 = .ok (.getfield 10, 3) := by decide +kernel
theorem dX11_swap_48 : decode cX11_swap 48 = .ok (.invokevirtual 196, 3) := by decide +kernel
theorem dX11_swap_51 : decode cX11_swap 51 = .ok (.istore_n 3, 1) := by decide +kernel
theorem dX11_swap_52 : decode cX11_swap 52 = .ok (.aload_n 0, 1) := by decide +kernel
theorem dX11_swap_53 : decode cX11_swap 53 = .ok (.getfield 26, 3) := by decide +kernel
theorem dX11_swap_56 : decode cX11_swap 56 = .ok (.iload_n 1, 1) := by decide +kernel
theorem dX11_swap_57 : decode cX11_swap 57 = .ok (.invokevirtual 200, 3) := by decide +kernel
theorem dX11_swap_60 : decode cX11_swap 60 = .ok (.iload_n 3, 1) := by decide +kernel
theorem dX11_swap_61 : decode cX11_swap 61 = .ok (.iload_n 2, 1) := by decide +kernel
theorem dX11_swap_62 : decode cX11_swap 62 = .ok (.isub, 1) := by decide +kernel
theorem dX11_swap_63 : decode cX11_swap 63 = .ok (.ireturn, 1) := by decide +kernel
theorem dX11_block_0 : decode cX11_block 0 = .ok (.iload_n 1, 1) := by decide +kernel
theorem dX11_block_1 : decode cX11_block 1 = .ok (.ifCond .lt 18, 3) := by decide +kernel
theorem dX11_block_4 : decode cX11_block 4 = .ok (.iload_n 1, 1) := by decide +kernel
theorem dX11_block_5 : decode cX11_block 5 = .ok (.aload_n 0, 1) := by decide +kernel
theorem dX11_block_6 : decode cX11_block 6 = .ok (.getfield 19, 3) := by decide +kernel
theorem dX11_block_9 : decode cX11_block 9 = .ok (.aload_n 0, 1) := by decide +kernel
theorem dX11_block_10 : decode cX11_block 10 = .ok (.getfield 10, 3) := by decide +kernel
theorem dX11_block_13 : decode cX11_block 13 = .ok (.invokevirtual 163, 3) := by decide +kernel
theorem dX11_block_16 : decode cX11_block 16 = .ok (.if_icmp .lt 5, 3) := by decide +kernel
theorem dX11_block_19 : decode cX11_block 19 = .ok (.iconst (-1), 1) := by decide +kernel
theorem dX11_block_20 : decode cX11_block 20 = .ok (.ireturn, 1) := by decide +kernel
theorem dX11_block_21 : decode cX11_block 21 = .ok (.aload_n 0, 1) := by decide +kernel
theorem dX11_block_22 : decode cX11_block 22 = .ok (.getfield 19, 3) := by decide +kernel
theorem dX11_block_25 : decode cX11_block 25 = .ok (.iload_n 1, 1) := by decide +kernel
theorem dX11_block_26 : decode cX11_block 26 = .ok (.invokevirtual 203, 3) := by decide +kernel
theorem dX11_block_29 : decode cX11_block 29 = .ok (.istore_n 3, 1) := by decide +kernel
theorem dX11_block_30 : decode cX11_block 30 = .ok (.iload_n 2, 1) := by decide +kernel
theorem dX11_block_31 : decode cX11_block 31 = .ok (.tableswitch 45 0 2 #[25, 27, 36], 25) := by decide +kernel
theorem dX11_block_56 : decode cX11_block 56 = .ok (.iload_n 3, 1) := by decide +kernel
theorem dX11_block_57 : decode cX11_block 57 = .ok (.ireturn, 1) := by decide +kernel
theorem dX11_block_58 : decode cX11_block 58 = .ok (.aload_n 0, 1) := by decide +kernel
theorem dX11_block_59 : decode cX11_block 59 = .ok (.getfield 10, 3) := by decide +kernel
theorem dX11_block_62 : decode cX11_block 62 = .ok (.iload_n 3, 1) := by decide +kernel
theorem dX11_block_63 : decode cX11_block 63 = .ok (.invokevirtual 206, 3) := by decide +kernel
theorem dX11_block_66 : decode cX11_block 66 = .ok (.ireturn, 1) := by decide +kernel
theorem dX11_block_67 : decode cX11_block 67 = .ok (.aload_n 0, 1) := by decide +kernel
theorem dX11_block_68 : decode cX11_block 68 = .ok (.getfield 10, 3) := by decide +kernel
theorem dX11_block_71 : decode cX11_block 71 = .ok (.iload_n 3, 1) := by decide +kernel
theorem dX11_block_72 : decode cX11_block 72 = .ok (.invokevirtual 209, 3) := by decide +kernel
theorem dX11_block_75 : decode cX11_block 75 = .ok (.ireturn, 1) := by decide +kernel
theorem dX11_block_76 : decode cX11_block 76 = .ok (.iconst (-1), 1) := by decide +kernel
theorem dX11_block_77 : decode cX11_block 77 = .ok (.ireturn, 1) := by decide +kernel
theorem dX11_least_0 : decode cX11_least 0 = .ok (.aload_n 0, 1) := by decide +kernel
theorem dX11_least_1 : decode cX11_least 1 = .ok (.getfield 19, 3) := by decide +kernel
theorem dX11_least_4 : decode cX11_least 4 = .ok (.aload_n 0, 1) := by decide +kernel
theorem dX11_least_5 : decode cX11_least 5 = .ok (.getfield 10, 3) := by decide +kernel
theorem dX11_least_8 : decode cX11_least 8 = .ok (.invokevirtual 212, 3) := by decide +kernel
theorem dX11_least_11 : decode cX11_least 11 = .ok (.ireturn, 1) := by decide +kernel
theorem dX11_best_0 : decode cX11_best 0 = .ok (.aload_n 0, 1) := by decide +kernel
theorem dX11_best_1 : decode cX11_best 1 = .ok (.getfield 10, 3) := by decide +kernel
theorem dX11_best_4 : decode cX11_best 4 = .ok (.iload_n 1, 1) := by decide +kernel
theorem dX11_best_5 : decode cX11_best 5 = .ok (.invokevirtual 93, 3) := by decide +kernel
end
section
theorem dX11_best_8 : decode cX11_best 8 = .ok (.ifCond .eq 18, 3) := by decide +kernel
theorem dX11_best_11 : decode cX11_best 11 = .ok (.aload_n 0, 1) := by decide +kernel
theorem dX11_best_12 : decode cX11_best 12 = .ok (.getfield 19, 3) := by decide +kernel
theorem dX11_best_15 : decode cX11_best 15 = .ok (.aload_n 0, 1) := by decide +kernel
theorem dX11_best_16 : decode cX11_best 16 = .ok (.getfield 10, 3) := by decide +kernel
theorem dX11_best_19 : decode cX11_best 19 = .ok (.iload_n 1, 1) := by decide +kernel
theorem dX11_best_20 : decode cX11_best 20 = .ok (.invokevirtual 215, 3) := by decide +kernel
theorem dX11_best_23 : decode cX11_best 23 = .ok (.goto 4, 3) := by decide +kernel
theorem dX11_best_26 : decode cX11_best 26 = .ok (.iconst (-1), 1) := by decide +kernel
theorem dX11_best_27 : decode cX11_best 27 = .ok (.ireturn, 1) := by decide +kernel
theorem dX11_many_0 : decode cX11_many 0 = .ok (.aload_n 0, 1) := by decide +kernel
theorem dX11_many_1 : decode cX11_many 1 = .ok (.getfield 19, 3) := by decide +kernel
theorem dX11_many_4 : decode cX11_many 4 = .ok (.aload_n 0, 1) := by decide +kernel
theorem dX11_many_5 : decode cX11_many 5 = .ok (.getfield 10, 3) := by decide +kernel
theorem dX11_many_8 : decode cX11_many 8 = .ok (.invokevirtual 218, 3) := by decide +kernel
theorem dX11_many_11 : decode cX11_many 11 = .ok (.ireturn, 1) := by decide +kernel
theorem dX11_fixed_0 : decode cX11_fixed 0 = .ok (.aload_n 0, 1) := by decide +kernel
theorem dX11_fixed_1 : decode cX11_fixed 1 = .ok (.getfield 10, 3) := by decide +kernel
theorem dX11_fixed_4 : decode cX11_fixed 4 = .ok (.iload_n 1, 1) := by decide +kernel
theorem dX11_fixed_5 : decode cX11_fixed 5 = .ok (.invokevirtual 93, 3) := by decide +kernel
theorem dX11_fixed_8 : decode cX11_fixed 8 = .ok (.ifCond .eq 19, 3) := by decide +kernel
theorem dX11_fixed_11 : decode cX11_fixed 11 = .ok (.aload_n 0, 1) := by decide +kernel
theorem dX11_fixed_12 : decode cX11_fixed 12 = .ok (.getfield 10, 3) := by decide +kernel
theorem dX11_fixed_15 : decode cX11_fixed 15 = .ok (.iload_n 2, 1) := by decide +kernel
theorem dX11_fixed_16 : decode cX11_fixed 16 = .ok (.invokevirtual 93, 3) := by decide +kernel
theorem dX11_fixed_19 : decode cX11_fixed 19 = .ok (.ifCond .eq 8, 3) := by decide +kernel
theorem dX11_fixed_22 : decode cX11_fixed 22 = .ok (.iload_n 1, 1) := by decide +kernel
theorem dX11_fixed_23 : decode cX11_fixed 23 = .ok (.iload_n 2, 1) := by decide +kernel
theorem dX11_fixed_24 : decode cX11_fixed 24 = .ok (.if_icmp .ne 5, 3) := by decide +kernel
theorem dX11_fixed_27 : decode cX11_fixed 27 = .ok (.iconst (-1), 1) := by decide +kernel
theorem dX11_fixed_28 : decode cX11_fixed 28 = .ok (.ireturn, 1) := by decide +kernel
theorem dX11_fixed_29 : decode cX11_fixed 29 = .ok (.aload_n 0, 1) := by decide +kernel
theorem dX11_fixed_30 : decode cX11_fixed 30 = .ok (.getfield 19, 3) := by decide +kernel
theorem dX11_fixed_33 : decode cX11_fixed 33 = .ok (.aload_n 0, 1) := by decide +kernel
theorem dX11_fixed_34 : decode cX11_fixed 34 = .ok (.getfield 10, 3) := by decide +kernel
theorem dX11_fixed_37 : decode cX11_fixed 37 = .ok (.iload_n 2, 1) := by decide +kernel
theorem dX11_fixed_38 : decode cX11_fixed 38 = .ok (.iload_n 1, 1) := by decide +kernel
theorem dX11_fixed_39 : decode cX11_fixed 39 = .ok (.invokevirtual 221, 3) := by decide +kernel
theorem dX11_fixed_42 : decode cX11_fixed 42 = .ok (.ifCond .ne 7, 3) := by decide +kernel
theorem dX11_fixed_45 : decode cX11_fixed 45 = .ok (.iconst 1, 1) := by decide +kernel
theorem dX11_fixed_46 : decode cX11_fixed 46 = .ok (.goto 4, 3) := by decide +kernel
theorem dX11_fixed_49 : decode cX11_fixed 49 = .ok (.iconst 0, 1) := by decide +kernel
theorem dX11_fixed_50 : decode cX11_fixed 50 = .ok (.invokestatic 153, 3) := by decide +kernel
theorem dX11_fixed_53 : decode cX11_fixed 53 = .ok (.ireturn, 1) := by decide +kernel
theorem dX11_series_0 : decode cX11_series 0 = .ok (.aload_n 0, 1) := by decide +kernel
theorem dX11_series_1 : decode cX11_series 1 = .ok (.getfield 10, 3) := by decide +kernel
theorem dX11_series_4 : decode cX11_series 4 = .ok (.invokevirtual 225, 3) := by decide +kernel
theorem dX11_series_7 : decode cX11_series 7 = .ok (.iconst (-1), 1) := by decide +kernel
theorem dX11_series_8 : decode cX11_series 8 = .ok (.if_icmp .ne 7, 3) := by decide +kernel
theorem dX11_series_11 : decode cX11_series 11 = .ok (.iconst 1, 1) := by decide +kernel
theorem dX11_series_12 : decode cX11_series 12 = .ok (.goto 4, 3) := by decide +kernel
theorem dX11_series_15 : decode cX11_series 15 = .ok (.iconst 0, 1) := by decide +kernel
theorem dX11_series_16 : decode cX11_series 16 = .ok (.invokestatic 153, 3) := by decide +kernel
theorem dX11_series_19 : decode cX11_series 19 = .ok (.ireturn, 1) := by decide +kernel
theorem dX11_shows_0 : decode cX11_shows 0 = .ok (.aload_n 0, 1) := by decide +kernel
theorem dX11_shows_1 : decode cX11_shows 1 = .ok (.getfield 10, 3) := by decide +kernel
theorem dX11_shows_4 : decode cX11_shows 4 = .ok (.invokevirtual 225, 3) := by decide +kernel
theorem dX11_shows_7 : decode cX11_shows 7 = .ok (.istore_n 2, 1) := by decide +kernel
theorem dX11_shows_8 : decode cX11_shows 8 = .ok (.iload_n 2, 1) := by decide +kernel
theorem dX11_shows_9 : decode cX11_shows 9 = .ok (.iconst (-1), 1) := by decide +kernel
theorem dX11_shows_10 : decode cX11_shows 10 = .ok (.if_icmp .eq 12, 3) := by decide +kernel
theorem dX11_shows_13 : decode cX11_shows 13 = .ok (.iload_n 1, 1) := by decide +kernel
theorem dX11_shows_14 : decode cX11_shows 14 = .ok (.ifCond .lt 8, 3) := by decide +kernel
theorem dX11_shows_17 : decode cX11_shows 17 = .ok (.iload_n 1, 1) := by decide +kernel
theorem dX11_shows_18 : decode cX11_shows 18 = .ok (.iconst 3, 1) := by decide +kernel
theorem dX11_shows_19 : decode cX11_shows 19 = .ok (.if_icmp .le 5, 3) := by decide +kernel
theorem dX11_shows_22 : decode cX11_shows 22 = .ok (.iconst (-1), 1) := by decide +kernel
theorem dX11_shows_23 : decode cX11_shows 23 = .ok (.ireturn, 1) := by decide +kernel
theorem dX11_shows_24 : decode cX11_shows 24 = .ok (.iload_n 2, 1) := by decide +kernel
theorem dX11_shows_25 : decode cX11_shows 25 = .ok (.iload_n 1, 1) := by decide +kernel
theorem dX11_shows_26 : decode cX11_shows 26 = .ok (.invokestatic 228, 3) := by decide +kernel
theorem dX11_shows_29 : decode cX11_shows 29 = .ok (.ireturn, 1) := by decide +kernel
theorem dX11_turned_0 : decode cX11_turned 0 = .ok (.iconst 0, 1) := by decide +kernel
theorem dX11_turned_1 : decode cX11_turned 1 = .ok (.istore_n 1, 1) := by decide +kernel
theorem dX11_turned_2 : decode cX11_turned 2 = .ok (.iload_n 1, 1) := by decide +kernel
theorem dX11_turned_3 : decode cX11_turned 3 = .ok (.aload_n 0, 1) := by decide +kernel
theorem dX11_turned_4 : decode cX11_turned 4 = .ok (.getfield 10, 3) := by decide +kernel
theorem dX11_turned_7 : decode cX11_turned 7 = .ok (.invokevirtual 157, 3) := by decide +kernel
theorem dX11_turned_10 : decode cX11_turned 10 = .ok (.if_icmp .ge 23, 3) := by decide +kernel
theorem dX11_turned_13 : decode cX11_turned 13 = .ok (.aload_n 0, 1) := by decide +kernel
theorem dX11_turned_14 : decode cX11_turned 14 = .ok (.getfield 10, 3) := by decide +kernel
theorem dX11_turned_17 : decode cX11_turned 17 = .ok (.iload_n 1, 1) := by decide +kernel
theorem dX11_turned_18 : decode cX11_turned 18 = .ok (.iconst 1, 1) := by decide +kernel
theorem dX11_turned_19 : decode cX11_turned 19 = .ok (.invokevirtual 97, 3) := by decide +kernel
theorem dX11_turned_22 : decode cX11_turned 22 = .ok (.ifCond .ne 5, 3) := by decide +kernel
theorem dX11_turned_25 : decode cX11_turned 25 = .ok (.iconst (-1), 1) := by decide +kernel
theorem dX11_turned_26 : decode cX11_turned 26 = .ok (.ireturn, 1) := by decide +kernel
theorem dX11_turned_27 : decode cX11_turned 27 = .ok (.iinc 1 1, 3) := by decide +kernel
theorem dX11_turned_30 : decode cX11_turned 30 = .ok (.goto (-28), 3) := by decide +kernel
theorem dX11_turned_33 : decode cX11_turned 33 = .ok (.aload_n 0, 1) := by decide +kernel
theorem dX11_turned_34 : decode cX11_turned 34 = .ok (.getfield 19, 3) := by decide +kernel
theorem dX11_turned_37 : decode cX11_turned 37 = .ok (.aload_n 0, 1) := by decide +kernel
theorem dX11_turned_38 : decode cX11_turned 38 = .ok (.getfield 10, 3) := by decide +kernel
theorem dX11_turned_41 : decode cX11_turned 41 = .ok (.invokevirtual 212, 3) := by decide +kernel
theorem dX11_turned_44 : decode cX11_turned 44 = .ok (.ireturn, 1) := by decide +kernel
theorem dX11_act_0 : decode cX11_act 0 = .ok (.aload_n 0, 1) := by decide +kernel
theorem dX11_act_1 : decode cX11_act 1 = .ok (.getfield 10, 3) := by decide +kernel
theorem dX11_act_4 : decode cX11_act 4 = .ok (.iload_n 1, 1) := by decide +kernel
theorem dX11_act_5 : decode cX11_act 5 = .ok (.invokevirtual 93, 3) := by decide +kernel
theorem dX11_act_8 : decode cX11_act 8 = .ok (.ifCond .eq 12, 3) := by decide +kernel
theorem dX11_act_11 : decode cX11_act 11 = .ok (.iload_n 2, 1) := by decide +kernel
theorem dX11_act_12 : decode cX11_act 12 = .ok (.ifCond .lt 8, 3) := by decide +kernel
theorem dX11_act_15 : decode cX11_act 15 = .ok (.iload_n 2, 1) := by decide +kernel
theorem dX11_act_16 : decode cX11_act 16 = .ok (.iconst 3, 1) := by decide +kernel
theorem dX11_act_17 : decode cX11_act 17 = .ok (.if_icmp .le 9, 3) := by decide +kernel
theorem dX11_act_20 : decode cX11_act 20 = .ok (.aload_n 0, 1) := by decide +kernel
theorem dX11_act_21 : decode cX11_act 21 = .ok (.iconst 1, 1) := by decide +kernel
theorem dX11_act_22 : decode cX11_act 22 = .ok (.invokevirtual 78, 3) := by decide +kernel
theorem dX11_act_25 : decode cX11_act 25 = .ok (.ireturn, 1) := by decide +kernel
theorem dX11_act_26 : decode cX11_act 26 = .ok (.aload_n 0, 1) := by decide +kernel
theorem dX11_act_27 : decode cX11_act 27 = .ok (.getfield 40, 3) := by decide +kernel
theorem dX11_act_30 : decode cX11_act 30 = .ok (.aload_n 0, 1) := by decide +kernel
theorem dX11_act_31 : decode cX11_act 31 = .ok (.getfield 10, 3) := by decide +kernel
theorem dX11_act_34 : decode cX11_act 34 = .ok (.iload_n 1, 1) := by decide +kernel
theorem dX11_act_35 : decode cX11_act 35 = .ok (.invokevirtual 231, 3) := by decide +kernel
theorem dX11_act_38 : decode cX11_act 38 = .ok (.aload_n 0, 1) := by decide +kernel
theorem dX11_act_39 : decode cX11_act 39 = .ok (.getfield 59, 3) := by decide +kernel
theorem dX11_act_42 : decode cX11_act 42 = .ok (.aload_n 0, 1) := by decide +kernel
theorem dX11_act_43 : decode cX11_act 43 = .ok (.getfield 10, 3) := by decide +kernel
theorem dX11_act_46 : decode cX11_act 46 = .ok (.iload_n 1, 1) := by decide +kernel
theorem dX11_act_47 : decode cX11_act 47 = .ok (.invokevirtual 135, 3) := by decide +kernel
theorem dX11_act_50 : decode cX11_act 50 = .ok (.aaload, 1) := by decide +kernel
theorem dX11_act_51 : decode cX11_act 51 = .ok (.astore 4, 2) := by decide +kernel
theorem dX11_act_53 : decode cX11_act 53 = .ok (.iload_n 2, 1) := by decide +kernel
theorem dX11_act_54 : decode cX11_act 54 = .ok (.tableswitch 71 0 2 #[26, 41, 56], 26) := by decide +kernel
theorem dX11_act_80 : decode cX11_act 80 = .ok (.aload_n 0, 1) := by decide +kernel
theorem dX11_act_81 : decode cX11_act 81 = .ok (.aload 4, 2) := by decide +kernel
theorem dX11_act_83 : decode cX11_act 83 = .ok (.aload_n 0, 1) := by decide +kernel
theorem dX11_act_84 : decode cX11_act 84 = .ok (.getfield 40, 3) := by decide +kernel
theorem dX11_act_87 : decode cX11_act 87 = .ok (.iload_n 3, 1) := by decide +kernel
theorem dX11_act_88 : decode cX11_act 88 = .ok (.invokevirtual 235, 3) := by decide +kernel
theorem dX11_act_91 : decode cX11_act 91 = .ok (.invokevirtual 90, 3) := by decide +kernel
theorem dX11_act_94 : decode cX11_act 94 = .ok (.ireturn, 1) := by decide +kernel
theorem dX11_act_95 : decode cX11_act 95 = .ok (.aload_n 0, 1) := by decide +kernel
theorem dX11_act_96 : decode cX11_act 96 = .ok (.aload 4, 2) := by decide +kernel
theorem dX11_act_98 : decode cX11_act 98 = .ok (.aload_n 0, 1) := by decide +kernel
theorem dX11_act_99 : decode cX11_act 99 = .ok (.getfield 40, 3) := by decide +kernel
theorem dX11_act_102 : decode cX11_act 102 = .ok (.iload_n 3, 1) := by decide +kernel
theorem dX11_act_103 : decode cX11_act 103 = .ok (.invokevirtual 239, 3) := by decide +kernel
theorem dX11_act_106 : decode cX11_act 106 = .ok (.invokevirtual 90, 3) := by decide +kernel
theorem dX11_act_109 : decode cX11_act 109 = .ok (.ireturn, 1) := by decide +kernel
theorem dX11_act_110 : decode cX11_act 110 = .ok (.aload_n 0, 1) := by decide +kernel
theorem dX11_act_111 : decode cX11_act 111 = .ok (.aload 4, 2) := by decide +kernel
theorem dX11_act_113 : decode cX11_act 113 = .ok (.aload_n 0, 1) := by decide +kernel
theorem dX11_act_114 : decode cX11_act 114 = .ok (.getfield 40, 3) := by decide +kernel
theorem dX11_act_117 : decode cX11_act 117 = .ok (.iload_n 3, 1) := by decide +kernel
theorem dX11_act_118 : decode cX11_act 118 = .ok (.invokevirtual 242, 3) := by decide +kernel
theorem dX11_act_121 : decode cX11_act 121 = .ok (.invokevirtual 90, 3) := by decide +kernel
theorem dX11_act_124 : decode cX11_act 124 = .ok (.ireturn, 1) := by decide +kernel
theorem dX11_act_125 : decode cX11_act 125 = .ok (.aload_n 0, 1) := by decide +kernel
theorem dX11_act_126 : decode cX11_act 126 = .ok (.aload 4, 2) := by decide +kernel
theorem dX11_act_128 : decode cX11_act 128 = .ok (.aload_n 0, 1) := by decide +kernel
theorem dX11_act_129 : decode cX11_act 129 = .ok (.getfield 40, 3) := by decide +kernel
theorem dX11_act_132 : decode cX11_act 132 = .ok (.iload_n 3, 1) := by decide +kernel
theorem dX11_act_133 : decode cX11_act 133 = .ok (.invokevirtual 245, 3) := by decide +kernel
theorem dX11_act_136 : decode cX11_act 136 = .ok (.invokevirtual 90, 3) := by decide +kernel
theorem dX11_act_139 : decode cX11_act 139 = .ok (.ireturn, 1) := by decide +kernel
theorem dX11_trace_0 : decode cX11_trace 0 = .ok (.aload_n 0, 1) := by decide +kernel
theorem dX11_trace_1 : decode cX11_trace 1 = .ok (.getfield 40, 3) := by decide +kernel
theorem dX11_trace_4 : decode cX11_trace 4 = .ok (.iload_n 1, 1) := by decide +kernel
theorem dX11_trace_5 : decode cX11_trace 5 = .ok (.invokevirtual 248, 3) := by decide +kernel
theorem dX11_trace_8 : decode cX11_trace 8 = .ok (.ireturn, 1) := by decide +kernel
theorem dX11_sheet_0 : decode cX11_sheet 0 = .ok (.iload_n 1, 1) := by decide +kernel
theorem dX11_sheet_1 : decode cX11_sheet 1 = .ok (.invokestatic 251, 3) := by decide +kernel
theorem dX11_sheet_4 : decode cX11_sheet 4 = .ok (.ifCond .eq 13, 3) := by decide +kernel
theorem dX11_sheet_7 : decode cX11_sheet 7 = .ok (.iload_n 2, 1) := by decide +kernel
theorem dX11_sheet_8 : decode cX11_sheet 8 = .ok (.iconst (-1), 1) := by decide +kernel
theorem dX11_sheet_9 : decode cX11_sheet 9 = .ok (.if_icmp .lt 8, 3) := by decide +kernel
theorem dX11_sheet_12 : decode cX11_sheet 12 = .ok (.iload_n 2, 1) := by decide +kernel
theorem dX11_sheet_13 : decode cX11_sheet 13 = .ok (.iconst 2, 1) := by decide +kernel
theorem dX11_sheet_14 : decode cX11_sheet 14 = .ok (.if_icmp .le 9, 3) := by decide +kernel
theorem dX11_sheet_17 : decode cX11_sheet 17 = .ok (.aload_n 0, 1) := by decide +kernel
theorem dX11_sheet_18 : decode cX11_sheet 18 = .ok (.iconst 1, 1) := by decide +kernel
theorem dX11_sheet_19 : decode cX11_sheet 19 = .ok (.invokevirtual 78, 3) := by decide +kernel
theorem dX11_sheet_22 : decode cX11_sheet 22 = .ok (.ireturn, 1) := by decide +kernel
theorem dX11_sheet_23 : decode cX11_sheet 23 = .ok (.iload_n 2, 1) := by decide +kernel
theorem dX11_sheet_24 : decode cX11_sheet 24 = .ok (.iconst (-1), 1) := by decide +kernel
theorem dX11_sheet_25 : decode cX11_sheet 25 = .ok (.if_icmp .ne 18, 3) := by decide +kernel
theorem dX11_sheet_28 : decode cX11_sheet 28 = .ok (.aload_n 0, 1) := by decide +kernel
theorem dX11_sheet_29 : decode cX11_sheet 29 = .ok (.getfield 65, 3) := by decide +kernel
theorem dX11_sheet_32 : decode cX11_sheet 32 = .ok (.iload_n 1, 1) := by decide +kernel
theorem dX11_sheet_33 : decode cX11_sheet 33 = .ok (.aaload, 1) := by decide +kernel
theorem dX11_sheet_34 : decode cX11_sheet 34 = .ok (.invokevirtual 254, 3) := by decide +kernel
theorem dX11_sheet_37 : decode cX11_sheet 37 = .ok (.aload_n 0, 1) := by decide +kernel
theorem dX11_sheet_38 : decode cX11_sheet 38 = .ok (.iconst 1, 1) := by decide +kernel
theorem dX11_sheet_39 : decode cX11_sheet 39 = .ok (.invokevirtual 90, 3) := by decide +kernel
theorem dX11_sheet_42 : decode cX11_sheet 42 = .ok (.ireturn, 1) := by decide +kernel
theorem dX11_sheet_43 : decode cX11_sheet 43 = .ok (.iload_n 3, 1) := by decide +kernel
theorem dX11_sheet_44 : decode cX11_sheet 44 = .ok (.ifCond .lt 9, 3) := by decide +kernel
theorem dX11_sheet_47 : decode cX11_sheet 47 = .ok (.iload_n 3, 1) := by decide +kernel
theorem dX11_sheet_48 : decode cX11_sheet 48 = .ok (.bipush 20, 2) := by decide +kernel
theorem dX11_sheet_50 : decode cX11_sheet 50 = .ok (.if_icmp .le 9, 3) := by decide +kernel
theorem dX11_sheet_53 : decode cX11_sheet 53 = .ok (.aload_n 0, 1) := by decide +kernel
theorem dX11_sheet_54 : decode cX11_sheet 54 = .ok (.iconst 1, 1) := by decide +kernel
theorem dX11_sheet_55 : decode cX11_sheet 55 = .ok (.invokevirtual 78, 3) := by decide +kernel
theorem dX11_sheet_58 : decode cX11_sheet 58 = .ok (.ireturn, 1) := by decide +kernel
theorem dX11_sheet_59 : decode cX11_sheet 59 = .ok (.aload_n 0, 1) := by decide +kernel
theorem dX11_sheet_60 : decode cX11_sheet 60 = .ok (.getfield 65, 3) := by decide +kernel
theorem dX11_sheet_63 : decode cX11_sheet 63 = .ok (.iload_n 1, 1) := by decide +kernel
theorem dX11_sheet_64 : decode cX11_sheet 64 = .ok (.aaload, 1) := by decide +kernel
theorem dX11_sheet_65 : decode cX11_sheet 65 = .ok (.iload_n 2, 1) := by decide +kernel
theorem dX11_sheet_66 : decode cX11_sheet 66 = .ok (.iload_n 3, 1) := by decide +kernel
theorem dX11_sheet_67 : decode cX11_sheet 67 = .ok (.invokevirtual 257, 3) := by decide +kernel
theorem dX11_sheet_70 : decode cX11_sheet 70 = .ok (.aload_n 0, 1) := by decide +kernel
theorem dX11_sheet_71 : decode cX11_sheet 71 = .ok (.iconst 1, 1) := by decide +kernel
theorem dX11_sheet_72 : decode cX11_sheet 72 = .ok (.invokevirtual 90, 3) := by decide +kernel
theorem dX11_sheet_75 : decode cX11_sheet 75 = .ok (.ireturn, 1) := by decide +kernel
theorem dX11_cell_0 : decode cX11_cell 0 = .ok (.iload_n 1, 1) := by decide +kernel
theorem dX11_cell_1 : decode cX11_cell 1 = .ok (.invokestatic 251, 3) := by decide +kernel
theorem dX11_cell_4 : decode cX11_cell 4 = .ok (.ifCond .ne 9, 3) := by decide +kernel
theorem dX11_cell_7 : decode cX11_cell 7 = .ok (.aload_n 0, 1) := by decide +kernel
theorem dX11_cell_8 : decode cX11_cell 8 = .ok (.iconst 1, 1) := by decide +kernel
theorem dX11_cell_9 : decode cX11_cell 9 = .ok (.invokevirtual 78, 3) := by decide +kernel
theorem dX11_cell_12 : decode cX11_cell 12 = .ok (.ireturn, 1) := by decide +kernel
theorem dX11_cell_13 : decode cX11_cell 13 = .ok (.aload_n 0, 1) := by decide +kernel
theorem dX11_cell_14 : decode cX11_cell 14 = .ok (.getfield 65, 3) := by decide +kernel
theorem dX11_cell_17 : decode cX11_cell 17 = .ok (.iload_n 1, 1) := by decide +kernel
theorem dX11_cell_18 : decode cX11_cell 18 = .ok (.aaload, 1) := by decide +kernel
theorem dX11_cell_19 : decode cX11_cell 19 = .ok (.astore 4, 2) := by decide +kernel
theorem dX11_cell_21 : decode cX11_cell 21 = .ok (.aload 4, 2) := by decide +kernel
theorem dX11_cell_23 : decode cX11_cell 23 = .ok (.invokevirtual 260, 3) := by decide +kernel
theorem dX11_cell_26 : decode cX11_cell 26 = .ok (.ifCond .eq 10, 3) := by decide +kernel
theorem dX11_cell_29 : decode cX11_cell 29 = .ok (.aload_n 0, 1) := by decide +kernel
theorem dX11_cell_30 : decode cX11_cell 30 = .ok (.bipush 10, 2) := by decide +kernel
theorem dX11_cell_32 : decode cX11_cell 32 = .ok (.invokevirtual 78, 3) := by decide +kernel
theorem dX11_cell_35 : decode cX11_cell 35 = .ok (.ireturn, 1) := by decide +kernel
theorem dX11_cell_36 : decode cX11_cell 36 = .ok (.iload_n 2, 1) := by decide +kernel
theorem dX11_cell_37 : decode cX11_cell 37 = .ok (.ifCond .lt 12, 3) := by decide +kernel
theorem dX11_cell_40 : decode cX11_cell 40 = .ok (.iload_n 2, 1) := by decide +kernel
theorem dX11_cell_41 : decode cX11_cell 41 = .ok (.aload 4, 2) := by decide +kernel
theorem dX11_cell_43 : decode cX11_cell 43 = .ok (.invokevirtual 263, 3) := by decide +kernel
theorem dX11_cell_46 : decode cX11_cell 46 = .ok (.if_icmp .lt 10, 3) := by decide +kernel
theorem dX11_cell_49 : decode cX11_cell 49 = .ok (.aload_n 0, 1) := by decide +kernel
theorem dX11_cell_50 : decode cX11_cell 50 = .ok (.bipush 12, 2) := by decide +kernel
theorem dX11_cell_52 : decode cX11_cell 52 = .ok (.invokevirtual 78, 3) := by decide +kernel
theorem dX11_cell_55 : decode cX11_cell 55 = .ok (.ireturn, 1) := by decide +kernel
theorem dX11_cell_56 : decode cX11_cell 56 = .ok (.aload 4, 2) := by decide +kernel
theorem dX11_cell_58 : decode cX11_cell 58 = .ok (.iload_n 2, 1) := by decide +kernel
theorem dX11_cell_59 : decode cX11_cell 59 = .ok (.iload_n 3, 1) := by decide +kernel
theorem dX11_cell_60 : decode cX11_cell 60 = .ok (.invokevirtual 264, 3) := by decide +kernel
theorem dX11_cell_63 : decode cX11_cell 63 = .ok (.aload_n 0, 1) := by decide +kernel
theorem dX11_cell_64 : decode cX11_cell 64 = .ok (.iconst 1, 1) := by decide +kernel
theorem dX11_cell_65 : decode cX11_cell 65 = .ok (.invokevirtual 90, 3) := by decide +kernel
theorem dX11_cell_68 : decode cX11_cell 68 = .ok (.ireturn, 1) := by decide +kernel
theorem dX11_fromSheet_0 : decode cX11_fromSheet 0 = .ok (.iload_n 1, 1) := by decide +kernel
theorem dX11_fromSheet_1 : decode cX11_fromSheet 1 = .ok (.invokestatic 251, 3) := by decide +kernel
theorem dX11_fromSheet_4 : decode cX11_fromSheet 4 = .ok (.ifCond .eq 12, 3) := by decide +kernel
theorem dX11_fromSheet_7 : decode cX11_fromSheet 7 = .ok (.iload_n 2, 1) := by decide +kernel
theorem dX11_fromSheet_8 : decode cX11_fromSheet 8 = .ok (.ifCond .lt 8, 3) := by decide +kernel
theorem dX11_fromSheet_11 : decode cX11_fromSheet 11 = .ok (.iload_n 2, 1) := by decide +kernel
theorem dX11_fromSheet_12 : decode cX11_fromSheet 12 = .ok (.iconst 2, 1) := by decide +kernel
theorem dX11_fromSheet_13 : decode cX11_fromSheet 13 = .ok (.if_icmp .le 9, 3) := by decide +kernel
theorem dX11_fromSheet_16 : decode cX11_fromSheet 16 = .ok (.aload_n 0, 1) := by decide +kernel
theorem dX11_fromSheet_17 : decode cX11_fromSheet 17 = .ok (.iconst 1, 1) := by decide +kernel
theorem dX11_fromSheet_18 : decode cX11_fromSheet 18 = .ok (.invokevirtual 78, 3) := by decide +kernel
theorem dX11_fromSheet_21 : decode cX11_fromSheet 21 = .ok (.ireturn, 1) := by decide +kernel
theorem dX11_fromSheet_22 : decode cX11_fromSheet 22 = .ok (.aload_n 0, 1) := by decide +kernel
theorem dX11_fromSheet_23 : decode cX11_fromSheet 23 = .ok (.getfield 10, 3) := by decide +kernel
theorem dX11_fromSheet_26 : decode cX11_fromSheet 26 = .ok (.invokevirtual 82, 3) := by decide +kernel
theorem dX11_fromSheet_29 : decode cX11_fromSheet 29 = .ok (.ifCond .eq 9, 3) := by decide +kernel
theorem dX11_fromSheet_32 : decode cX11_fromSheet 32 = .ok (.aload_n 0, 1) := by decide +kernel
theorem dX11_fromSheet_33 : decode cX11_fromSheet 33 = .ok (.iconst 2, 1) := by decide +kernel
theorem dX11_fromSheet_34 : decode cX11_fromSheet 34 = .ok (.invokevirtual 78, 3) := by decide +kernel
theorem dX11_fromSheet_37 : decode cX11_fromSheet 37 = .ok (.ireturn, 1) := by decide +kernel
theorem dX11_fromSheet_38 : decode cX11_fromSheet 38 = .ok (.aload_n 0, 1) := by decide +kernel
theorem dX11_fromSheet_39 : decode cX11_fromSheet 39 = .ok (.getfield 65, 3) := by decide +kernel
theorem dX11_fromSheet_42 : decode cX11_fromSheet 42 = .ok (.iload_n 1, 1) := by decide +kernel
theorem dX11_fromSheet_43 : decode cX11_fromSheet 43 = .ok (.aaload, 1) := by decide +kernel
theorem dX11_fromSheet_44 : decode cX11_fromSheet 44 = .ok (.astore 4, 2) := by decide +kernel
theorem dX11_fromSheet_46 : decode cX11_fromSheet 46 = .ok (.aload 4, 2) := by decide +kernel
theorem dX11_fromSheet_48 : decode cX11_fromSheet 48 = .ok (.iload_n 2, 1) := by decide +kernel
theorem dX11_fromSheet_49 : decode cX11_fromSheet 49 = .ok (.invokevirtual 267, 3) := by decide +kernel
theorem dX11_fromSheet_52 : decode cX11_fromSheet 52 = .ok (.istore 5, 2) := by decide +kernel
theorem dX11_fromSheet_54 : decode cX11_fromSheet 54 = .ok (.iload 5, 2) := by decide +kernel
theorem dX11_fromSheet_56 : decode cX11_fromSheet 56 = .ok (.ifCond .eq 10, 3) := by decide +kernel
theorem dX11_fromSheet_59 : decode cX11_fromSheet 59 = .ok (.aload_n 0, 1) := by decide +kernel
theorem dX11_fromSheet_60 : decode cX11_fromSheet 60 = .ok (.iload 5, 2) := by decide +kernel
theorem dX11_fromSheet_62 : decode cX11_fromSheet 62 = .ok (.invokevirtual 78, 3) := by decide +kernel
theorem dX11_fromSheet_65 : decode cX11_fromSheet 65 = .ok (.ireturn, 1) := by decide +kernel
theorem dX11_fromSheet_66 : decode cX11_fromSheet 66 = .ok (.iload_n 3, 1) := by decide +kernel
theorem dX11_fromSheet_67 : decode cX11_fromSheet 67 = .ok (.ifCond .lt 14, 3) := by decide +kernel
theorem dX11_fromSheet_70 : decode cX11_fromSheet 70 = .ok (.iload_n 3, 1) := by decide +kernel
theorem dX11_fromSheet_71 : decode cX11_fromSheet 71 = .ok (.aload 4, 2) := by decide +kernel
theorem dX11_fromSheet_73 : decode cX11_fromSheet 73 = .ok (.invokevirtual 263, 3) := by decide +kernel
theorem dX11_fromSheet_76 : decode cX11_fromSheet 76 = .ok (.iconst 1, 1) := by decide +kernel
theorem dX11_fromSheet_77 : decode cX11_fromSheet 77 = .ok (.isub, 1) := by decide +kernel
theorem dX11_fromSheet_78 : decode cX11_fromSheet 78 = .ok (.if_icmp .lt 10, 3) := by decide +kernel
theorem dX11_fromSheet_81 : decode cX11_fromSheet 81 = .ok (.aload_n 0, 1) := by decide +kernel
theorem dX11_fromSheet_82 : decode cX11_fromSheet 82 = .ok (.bipush 12, 2) := by decide +kernel
theorem dX11_fromSheet_84 : decode cX11_fromSheet 84 = .ok (.invokevirtual 78, 3) := by decide +kernel
theorem dX11_fromSheet_87 : decode cX11_fromSheet 87 = .ok (.ireturn, 1) := by decide +kernel
theorem dX11_fromSheet_88 : decode cX11_fromSheet 88 = .ok (.aload 4, 2) := by decide +kernel
theorem dX11_fromSheet_90 : decode cX11_fromSheet 90 = .ok (.iload_n 3, 1) := by decide +kernel
theorem dX11_fromSheet_91 : decode cX11_fromSheet 91 = .ok (.invokevirtual 270, 3) := by decide +kernel
theorem dX11_fromSheet_94 : decode cX11_fromSheet 94 = .ok (.istore 6, 2) := by decide +kernel
theorem dX11_fromSheet_96 : decode cX11_fromSheet 96 = .ok (.aload 4, 2) := by decide +kernel
theorem dX11_fromSheet_98 : decode cX11_fromSheet 98 = .ok (.iload_n 3, 1) := by decide +kernel
theorem dX11_fromSheet_99 : decode cX11_fromSheet 99 = .ok (.iconst 1, 1) := by decide +kernel
theorem dX11_fromSheet_100 : decode cX11_fromSheet 100 = .ok (.iadd, 1) := by decide +kernel
theorem dX11_fromSheet_101 : decode cX11_fromSheet 101 = .ok (.invokevirtual 270, 3) := by decide +kernel
theorem dX11_fromSheet_104 : decode cX11_fromSheet 104 = .ok (.istore 7, 2) := by decide +kernel
theorem dX11_fromSheet_106 : decode cX11_fromSheet 106 = .ok (.iconst 0, 1) := by decide +kernel
theorem dX11_fromSheet_107 : decode cX11_fromSheet 107 = .ok (.iload 6, 2) := by decide +kernel
theorem dX11_fromSheet_109 : decode cX11_fromSheet 109 = .ok (.invokestatic 74, 3) := by decide +kernel
theorem dX11_fromSheet_112 : decode cX11_fromSheet 112 = .ok (.ifCond .eq 12, 3) := by decide +kernel
theorem dX11_fromSheet_115 : decode cX11_fromSheet 115 = .ok (.iconst 1, 1) := by decide +kernel
theorem dX11_fromSheet_116 : decode cX11_fromSheet 116 = .ok (.iload 7, 2) := by decide +kernel
theorem dX11_fromSheet_118 : decode cX11_fromSheet 118 = .ok (.invokestatic 74, 3) := by decide +kernel
theorem dX11_fromSheet_121 : decode cX11_fromSheet 121 = .ok (.ifCond .ne 9, 3) := by decide +kernel
theorem dX11_fromSheet_124 : decode cX11_fromSheet 124 = .ok (.aload_n 0, 1) := by decide +kernel
theorem dX11_fromSheet_125 : decode cX11_fromSheet 125 = .ok (.iconst 3, 1) := by decide +kernel
theorem dX11_fromSheet_126 : decode cX11_fromSheet 126 = .ok (.invokevirtual 78, 3) := by decide +kernel
theorem dX11_fromSheet_129 : decode cX11_fromSheet 129 = .ok (.ireturn, 1) := by decide +kernel
theorem dX11_fromSheet_130 : decode cX11_fromSheet 130 = .ok (.aload_n 0, 1) := by decide +kernel
theorem dX11_fromSheet_131 : decode cX11_fromSheet 131 = .ok (.aload_n 0, 1) := by decide +kernel
theorem dX11_fromSheet_132 : decode cX11_fromSheet 132 = .ok (.iload 6, 2) := by decide +kernel
theorem dX11_fromSheet_134 : decode cX11_fromSheet 134 = .ok (.iload 7, 2) := by decide +kernel
theorem dX11_fromSheet_136 : decode cX11_fromSheet 136 = .ok (.invokevirtual 86, 3) := by decide +kernel
theorem dX11_fromSheet_139 : decode cX11_fromSheet 139 = .ok (.invokevirtual 90, 3) := by decide +kernel
theorem dX11_fromSheet_142 : decode cX11_fromSheet 142 = .ok (.ireturn, 1) := by decide +kernel
theorem dX11_forge_0 : decode cX11_forge 0 = .ok (.iload_n 1, 1) := by decide +kernel
theorem dX11_forge_1 : decode cX11_forge 1 = .ok (.invokestatic 251, 3) := by decide +kernel
theorem dX11_forge_4 : decode cX11_forge 4 = .ok (.ifCond .eq 25, 3) := by decide +kernel
theorem dX11_forge_7 : decode cX11_forge 7 = .ok (.iload_n 2, 1) := by decide +kernel
theorem dX11_forge_8 : decode cX11_forge 8 = .ok (.ifCond .lt 21, 3) := by decide +kernel
theorem dX11_forge_11 : decode cX11_forge 11 = .ok (.iload_n 2, 1) := by decide +kernel
theorem dX11_forge_12 : decode cX11_forge 12 = .ok (.bipush 6, 2) := by decide +kernel
theorem dX11_forge_14 : decode cX11_forge 14 = .ok (.if_icmp .gt 15, 3) := by decide +kernel
theorem dX11_forge_17 : decode cX11_forge 17 = .ok (.iload_n 3, 1) := by decide +kernel
theorem dX11_forge_18 : decode cX11_forge 18 = .ok (.bipush (-100), 2) := by decide +kernel
theorem dX11_forge_20 : decode cX11_forge 20 = .ok (.if_icmp .lt 9, 3) := by decide +kernel
theorem dX11_forge_23 : decode cX11_forge 23 = .ok (.iload_n 3, 1) := by decide +kernel
theorem dX11_forge_24 : decode cX11_forge 24 = .ok (.bipush 100, 2) := by decide +kernel
theorem dX11_forge_26 : decode cX11_forge 26 = .ok (.if_icmp .le 9, 3) := by decide +kernel
theorem dX11_forge_29 : decode cX11_forge 29 = .ok (.aload_n 0, 1) := by decide +kernel
theorem dX11_forge_30 : decode cX11_forge 30 = .ok (.iconst 1, 1) := by decide +kernel
theorem dX11_forge_31 : decode cX11_forge 31 = .ok (.invokevirtual 78, 3) := by decide +kernel
theorem dX11_forge_34 : decode cX11_forge 34 = .ok (.ireturn, 1) := by decide +kernel
theorem dX11_forge_35 : decode cX11_forge 35 = .ok (.aload_n 0, 1) := by decide +kernel
theorem dX11_forge_36 : decode cX11_forge 36 = .ok (.getfield 65, 3) := by decide +kernel
theorem dX11_forge_39 : decode cX11_forge 39 = .ok (.iload_n 1, 1) := by decide +kernel
theorem dX11_forge_40 : decode cX11_forge 40 = .ok (.aaload, 1) := by decide +kernel
theorem dX11_forge_41 : decode cX11_forge 41 = .ok (.astore 4, 2) := by decide +kernel
theorem dX11_forge_43 : decode cX11_forge 43 = .ok (.iload_n 2, 1) := by decide +kernel
theorem dX11_forge_44 : decode cX11_forge 44 = .ok (.tableswitch 132 0 5 #[40, 52, 71, 79, 86, 109], 40) := by decide +kernel
theorem dX11_forge_84 : decode cX11_forge 84 = .ok (.aload_n 0, 1) := by decide +kernel
theorem dX11_forge_85 : decode cX11_forge 85 = .ok (.aload 4, 2) := by decide +kernel
theorem dX11_forge_87 : decode cX11_forge 87 = .ok (.iload_n 3, 1) := by decide +kernel
theorem dX11_forge_88 : decode cX11_forge 88 = .ok (.iconst 3, 1) := by decide +kernel
theorem dX11_forge_89 : decode cX11_forge 89 = .ok (.invokestatic 273, 3) := by decide +kernel
theorem dX11_forge_92 : decode cX11_forge 92 = .ok (.invokevirtual 278, 3) := by decide +kernel
theorem dX11_forge_95 : decode cX11_forge 95 = .ok (.ireturn, 1) := by decide +kernel
theorem dX11_forge_96 : decode cX11_forge 96 = .ok (.iload_n 3, 1) := by decide +kernel
theorem dX11_forge_97 : decode cX11_forge 97 = .ok (.ifCond .ge 12, 3) := by decide +kernel
theorem dX11_forge_100 : decode cX11_forge 100 = .ok (.aload_n 0, 1) := by decide +kernel
theorem dX11_forge_101 : decode cX11_forge 101 = .ok (.bipush 13, 2) := by decide +kernel
theorem dX11_forge_103 : decode cX11_forge 103 = .ok (.invokevirtual 78, 3) := by decide +kernel
theorem dX11_forge_106 : decode cX11_forge 106 = .ok (.goto 8, 3) := by decide +kernel
theorem dX11_forge_109 : decode cX11_forge 109 = .ok (.aload_n 0, 1) := by decide +kernel
theorem dX11_forge_110 : decode cX11_forge 110 = .ok (.iload_n 3, 1) := by decide +kernel
theorem dX11_forge_111 : decode cX11_forge 111 = .ok (.invokevirtual 90, 3) := by decide +kernel
theorem dX11_forge_114 : decode cX11_forge 114 = .ok (.ireturn, 1) := by decide +kernel
theorem dX11_forge_115 : decode cX11_forge 115 = .ok (.aload_n 0, 1) := by decide +kernel
theorem dX11_forge_116 : decode cX11_forge 116 = .ok (.aload 4, 2) := by decide +kernel
theorem dX11_forge_118 : decode cX11_forge 118 = .ok (.iload_n 3, 1) := by decide +kernel
theorem dX11_forge_119 : decode cX11_forge 119 = .ok (.invokevirtual 282, 3) := by decide +kernel
theorem dX11_forge_122 : decode cX11_forge 122 = .ok (.ireturn, 1) := by decide +kernel
theorem dX11_forge_123 : decode cX11_forge 123 = .ok (.aload_n 0, 1) := by decide +kernel
theorem dX11_forge_124 : decode cX11_forge 124 = .ok (.aload 4, 2) := by decide +kernel
theorem dX11_forge_126 : decode cX11_forge 126 = .ok (.invokevirtual 285, 3) := by decide +kernel
theorem dX11_forge_129 : decode cX11_forge 129 = .ok (.ireturn, 1) := by decide +kernel
theorem dX11_forge_130 : decode cX11_forge 130 = .ok (.iload_n 3, 1) := by decide +kernel
theorem dX11_forge_131 : decode cX11_forge 131 = .ok (.ifCond .ne 12, 3) := by decide +kernel
theorem dX11_forge_134 : decode cX11_forge 134 = .ok (.aload_n 0, 1) := by decide +kernel
theorem dX11_forge_135 : decode cX11_forge 135 = .ok (.bipush 15, 2) := by decide +kernel
theorem dX11_forge_137 : decode cX11_forge 137 = .ok (.invokevirtual 78, 3) := by decide +kernel
theorem dX11_forge_140 : decode cX11_forge 140 = .ok (.goto 12, 3) := by decide +kernel
theorem dX11_forge_143 : decode cX11_forge 143 = .ok (.aload_n 0, 1) := by decide +kernel
theorem dX11_forge_144 : decode cX11_forge 144 = .ok (.sipush 1000, 3) := by decide +kernel
theorem dX11_forge_147 : decode cX11_forge 147 = .ok (.iload_n 3, 1) := by decide +kernel
theorem dX11_forge_148 : decode cX11_forge 148 = .ok (.idiv, 1) := by decide +kernel
theorem dX11_forge_149 : decode cX11_forge 149 = .ok (.invokevirtual 90, 3) := by decide +kernel
theorem dX11_forge_152 : decode cX11_forge 152 = .ok (.ireturn, 1) := by decide +kernel
theorem dX11_forge_153 : decode cX11_forge 153 = .ok (.iload_n 3, 1) := by decide +kernel
theorem dX11_forge_154 : decode cX11_forge 154 = .ok (.iconst 2, 1) := by decide +kernel
theorem dX11_forge_155 : decode cX11_forge 155 = .ok (.invokestatic 273, 3) := by decide +kernel
theorem dX11_forge_158 : decode cX11_forge 158 = .ok (.ifCond .ne 12, 3) := by decide +kernel
theorem dX11_forge_161 : decode cX11_forge 161 = .ok (.aload_n 0, 1) := by decide +kernel
theorem dX11_forge_162 : decode cX11_forge 162 = .ok (.bipush 10, 2) := by decide +kernel
theorem dX11_forge_164 : decode cX11_forge 164 = .ok (.invokevirtual 78, 3) := by decide +kernel
theorem dX11_forge_167 : decode cX11_forge 167 = .ok (.goto 8, 3) := by decide +kernel
theorem dX11_forge_170 : decode cX11_forge 170 = .ok (.aload_n 0, 1) := by decide +kernel
theorem dX11_forge_171 : decode cX11_forge 171 = .ok (.iconst 1, 1) := by decide +kernel
theorem dX11_forge_172 : decode cX11_forge 172 = .ok (.invokevirtual 90, 3) := by decide +kernel
theorem dX11_forge_175 : decode cX11_forge 175 = .ok (.ireturn, 1) := by decide +kernel
theorem dX11_forge_176 : decode cX11_forge 176 = .ok (.aload_n 0, 1) := by decide +kernel
theorem dX11_forge_177 : decode cX11_forge 177 = .ok (.iload_n 3, 1) := by decide +kernel
theorem dX11_forge_178 : decode cX11_forge 178 = .ok (.bipush 12, 2) := by decide +kernel
theorem dX11_forge_180 : decode cX11_forge 180 = .ok (.invokestatic 273, 3) := by decide +kernel
theorem dX11_forge_183 : decode cX11_forge 183 = .ok (.invokevirtual 289, 3) := by decide +kernel
theorem dX11_forge_186 : decode cX11_forge 186 = .ok (.ireturn, 1) := by decide +kernel
theorem dX11_undo_0 : decode cX11_undo 0 = .ok (.aload_n 0, 1) := by decide +kernel
theorem dX11_undo_1 : decode cX11_undo 1 = .ok (.getfield 33, 3) := by decide +kernel
theorem dX11_undo_4 : decode cX11_undo 4 = .ok (.invokevirtual 173, 3) := by decide +kernel
theorem dX11_undo_7 : decode cX11_undo 7 = .ok (.ifCond .ne 9, 3) := by decide +kernel
theorem dX11_undo_10 : decode cX11_undo 10 = .ok (.aload_n 0, 1) := by decide +kernel
theorem dX11_undo_11 : decode cX11_undo 11 = .ok (.iconst 3, 1) := by decide +kernel
theorem dX11_undo_12 : decode cX11_undo 12 = .ok (.invokevirtual 78, 3) := by decide +kernel
theorem dX11_undo_15 : decode cX11_undo 15 = .ok (.ireturn, 1) := by decide +kernel
theorem dX11_undo_16 : decode cX11_undo 16 = .ok (.aload_n 0, 1) := by decide +kernel
theorem dX11_undo_17 : decode cX11_undo 17 = .ok (.getfield 33, 3) := by decide +kernel
theorem dX11_undo_20 : decode cX11_undo 20 = .ok (.aload_n 0, 1) := by decide +kernel
theorem dX11_undo_21 : decode cX11_undo 21 = .ok (.getfield 10, 3) := by decide +kernel
theorem dX11_undo_24 : decode cX11_undo 24 = .ok (.invokevirtual 292, 3) := by decide +kernel
theorem dX11_undo_27 : decode cX11_undo 27 = .ok (.aload_n 0, 1) := by decide +kernel
theorem dX11_undo_28 : decode cX11_undo 28 = .ok (.getfield 26, 3) := by decide +kernel
theorem dX11_undo_31 : decode cX11_undo 31 = .ok (.invokevirtual 132, 3) := by decide +kernel
theorem dX11_undo_34 : decode cX11_undo 34 = .ok (.aload_n 0, 1) := by decide +kernel
theorem dX11_undo_35 : decode cX11_undo 35 = .ok (.iconst 1, 1) := by decide +kernel
theorem dX11_undo_36 : decode cX11_undo 36 = .ok (.invokevirtual 90, 3) := by decide +kernel
theorem dX11_undo_39 : decode cX11_undo 39 = .ok (.ireturn, 1) := by decide +kernel
theorem dX11_status_0 : decode cX11_status 0 = .ok (.aload_n 0, 1) := by decide +kernel
theorem dX11_status_1 : decode cX11_status 1 = .ok (.getfield 70, 3) := by decide +kernel
theorem dX11_status_4 : decode cX11_status 4 = .ok (.ireturn, 1) := by decide +kernel
theorem dX11_done_0 : decode cX11_done 0 = .ok (.aload_n 0, 1) := by decide +kernel
theorem dX11_done_1 : decode cX11_done 1 = .ok (.iconst 0, 1) := by decide +kernel
theorem dX11_done_2 : decode cX11_done 2 = .ok (.putfield 70, 3) := by decide +kernel
theorem dX11_done_5 : decode cX11_done 5 = .ok (.iload_n 1, 1) := by decide +kernel
theorem dX11_done_6 : decode cX11_done 6 = .ok (.ireturn, 1) := by decide +kernel
theorem dX11_refused_0 : decode cX11_refused 0 = .ok (.aload_n 0, 1) := by decide +kernel
theorem dX11_refused_1 : decode cX11_refused 1 = .ok (.iload_n 1, 1) := by decide +kernel
theorem dX11_refused_2 : decode cX11_refused 2 = .ok (.putfield 70, 3) := by decide +kernel
theorem dX11_refused_5 : decode cX11_refused 5 = .ok (.iconst (-1), 1) := by decide +kernel
theorem dX11_refused_6 : decode cX11_refused 6 = .ok (.ireturn, 1) := by decide +kernel
theorem dX11_bringJob_0 : decode cX11_bringJob 0 = .ok (.aload_n 0, 1) := by decide +kernel
theorem dX11_bringJob_1 : decode cX11_bringJob 1 = .ok (.getfield 10, 3) := by decide +kernel
theorem dX11_bringJob_4 : decode cX11_bringJob 4 = .ok (.iload_n 1, 1) := by decide +kernel
theorem dX11_bringJob_5 : decode cX11_bringJob 5 = .ok (.iload_n 2, 1) := by decide +kernel
theorem dX11_bringJob_6 : decode cX11_bringJob 6 = .ok (.invokevirtual 296, 3) := by decide +kernel
theorem dX11_bringJob_9 : decode cX11_bringJob 9 = .ok (.istore_n 3, 1) := by decide +kernel
theorem dX11_bringJob_10 : decode cX11_bringJob 10 = .ok (.aload_n 0, 1) := by decide +kernel
theorem dX11_bringJob_11 : decode cX11_bringJob 11 = .ok (.getfield 33, 3) := by decide +kernel
theorem dX11_bringJob_14 : decode cX11_bringJob 14 = .ok (.iconst 0, 1) := by decide +kernel
theorem dX11_bringJob_15 : decode cX11_bringJob 15 = .ok (.iload_n 3, 1) := by decide +kernel
theorem dX11_bringJob_16 : decode cX11_bringJob 16 = .ok (.iconst 0, 1) := by decide +kernel
theorem dX11_bringJob_17 : decode cX11_bringJob 17 = .ok (.iconst 0, 1) := by decide +kernel
theorem dX11_bringJob_18 : decode cX11_bringJob 18 = .ok (.invokevirtual 104, 3) := by decide +kernel
theorem dX11_bringJob_21 : decode cX11_bringJob 21 = .ok (.iload_n 3, 1) := by decide +kernel
theorem dX11_bringJob_22 : decode cX11_bringJob 22 = .ok (.ireturn, 1) := by decide +kernel
theorem dX11_forgeSize_0 : decode cX11_forgeSize 0 = .ok (.aload_n 1, 1) := by decide +kernel
theorem dX11_forgeSize_1 : decode cX11_forgeSize 1 = .ok (.iload_n 2, 1) := by decide +kernel
theorem dX11_forgeSize_2 : decode cX11_forgeSize 2 = .ok (.invokevirtual 267, 3) := by decide +kernel
theorem dX11_forgeSize_5 : decode cX11_forgeSize 5 = .ok (.istore_n 3, 1) := by decide +kernel
theorem dX11_forgeSize_6 : decode cX11_forgeSize 6 = .ok (.iload_n 3, 1) := by decide +kernel
theorem dX11_forgeSize_7 : decode cX11_forgeSize 7 = .ok (.ifCond .ne 14, 3) := by decide +kernel
theorem dX11_forgeSize_10 : decode cX11_forgeSize 10 = .ok (.aload_n 0, 1) := by decide +kernel
theorem dX11_forgeSize_11 : decode cX11_forgeSize 11 = .ok (.aload_n 1, 1) := by decide +kernel
theorem dX11_forgeSize_12 : decode cX11_forgeSize 12 = .ok (.invokevirtual 263, 3) := by decide +kernel
theorem dX11_forgeSize_15 : decode cX11_forgeSize 15 = .ok (.invokevirtual 90, 3) := by decide +kernel
theorem dX11_forgeSize_18 : decode cX11_forgeSize 18 = .ok (.goto 8, 3) := by decide +kernel
theorem dX11_forgeSize_21 : decode cX11_forgeSize 21 = .ok (.aload_n 0, 1) := by decide +kernel
theorem dX11_forgeSize_22 : decode cX11_forgeSize 22 = .ok (.iload_n 3, 1) := by decide +kernel
theorem dX11_forgeSize_23 : decode cX11_forgeSize 23 = .ok (.invokevirtual 78, 3) := by decide +kernel
theorem dX11_forgeSize_26 : decode cX11_forgeSize 26 = .ok (.ireturn, 1) := by decide +kernel
theorem dX11_forgeCopy_0 : decode cX11_forgeCopy 0 = .ok (.aload_n 1, 1) := by decide +kernel
theorem dX11_forgeCopy_1 : decode cX11_forgeCopy 1 = .ok (.iconst 1, 1) := by decide +kernel
theorem dX11_forgeCopy_2 : decode cX11_forgeCopy 2 = .ok (.invokevirtual 267, 3) := by decide +kernel
theorem dX11_forgeCopy_5 : decode cX11_forgeCopy 5 = .ok (.istore_n 3, 1) := by decide +kernel
theorem dX11_forgeCopy_6 : decode cX11_forgeCopy 6 = .ok (.iload_n 3, 1) := by decide +kernel
theorem dX11_forgeCopy_7 : decode cX11_forgeCopy 7 = .ok (.ifCond .eq 9, 3) := by decide +kernel
theorem dX11_forgeCopy_10 : decode cX11_forgeCopy 10 = .ok (.aload_n 0, 1) := by decide +kernel
theorem dX11_forgeCopy_11 : decode cX11_forgeCopy 11 = .ok (.iload_n 3, 1) := by decide +kernel
theorem dX11_forgeCopy_12 : decode cX11_forgeCopy 12 = .ok (.invokevirtual 78, 3) := by decide +kernel
theorem dX11_forgeCopy_15 : decode cX11_forgeCopy 15 = .ok (.ireturn, 1) := by decide +kernel
theorem dX11_forgeCopy_16 : decode cX11_forgeCopy 16 = .ok (.iload_n 2, 1) := by decide +kernel
theorem dX11_forgeCopy_17 : decode cX11_forgeCopy 17 = .ok (.ifCond .lt 21, 3) := by decide +kernel
theorem dX11_forgeCopy_20 : decode cX11_forgeCopy 20 = .ok (.iconst 1, 1) := by decide +kernel
theorem dX11_forgeCopy_21 : decode cX11_forgeCopy 21 = .ok (.iload_n 2, 1) := by decide +kernel
theorem dX11_forgeCopy_22 : decode cX11_forgeCopy 22 = .ok (.iadd, 1) := by decide +kernel
theorem dX11_forgeCopy_23 : decode cX11_forgeCopy 23 = .ok (.aload_n 1, 1) := by decide +kernel
theorem dX11_forgeCopy_24 : decode cX11_forgeCopy 24 = .ok (.invokevirtual 263, 3) := by decide +kernel
theorem dX11_forgeCopy_27 : decode cX11_forgeCopy 27 = .ok (.if_icmp .gt 11, 3) := by decide +kernel
theorem dX11_forgeCopy_30 : decode cX11_forgeCopy 30 = .ok (.iload_n 2, 1) := by decide +kernel
theorem dX11_forgeCopy_31 : decode cX11_forgeCopy 31 = .ok (.iload_n 2, 1) := by decide +kernel
theorem dX11_forgeCopy_32 : decode cX11_forgeCopy 32 = .ok (.iadd, 1) := by decide +kernel
theorem dX11_forgeCopy_33 : decode cX11_forgeCopy 33 = .ok (.bipush 7, 2) := by decide +kernel
theorem dX11_forgeCopy_35 : decode cX11_forgeCopy 35 = .ok (.if_icmp .le 10, 3) := by decide +kernel
theorem dX11_forgeCopy_38 : decode cX11_forgeCopy 38 = .ok (.aload_n 0, 1) := by decide +kernel
theorem dX11_forgeCopy_39 : decode cX11_forgeCopy 39 = .ok (.bipush 12, 2) := by decide +kernel
theorem dX11_forgeCopy_41 : decode cX11_forgeCopy 41 = .ok (.invokevirtual 78, 3) := by decide +kernel
theorem dX11_forgeCopy_44 : decode cX11_forgeCopy 44 = .ok (.ireturn, 1) := by decide +kernel
theorem dX11_forgeCopy_45 : decode cX11_forgeCopy 45 = .ok (.aload_n 0, 1) := by decide +kernel
theorem dX11_forgeCopy_46 : decode cX11_forgeCopy 46 = .ok (.aload_n 1, 1) := by decide +kernel
theorem dX11_forgeCopy_47 : decode cX11_forgeCopy 47 = .ok (.iconst 1, 1) := by decide +kernel
theorem dX11_forgeCopy_48 : decode cX11_forgeCopy 48 = .ok (.iload_n 2, 1) := by decide +kernel
theorem dX11_forgeCopy_49 : decode cX11_forgeCopy 49 = .ok (.invokevirtual 299, 3) := by decide +kernel
theorem dX11_forgeCopy_52 : decode cX11_forgeCopy 52 = .ok (.invokevirtual 90, 3) := by decide +kernel
theorem dX11_forgeCopy_55 : decode cX11_forgeCopy 55 = .ok (.ireturn, 1) := by decide +kernel
theorem dX11_forgeLaying_0 : decode cX11_forgeLaying 0 = .ok (.aload_n 1, 1) := by decide +kernel
theorem dX11_forgeLaying_1 : decode cX11_forgeLaying 1 = .ok (.invokevirtual 260, 3) := by decide +kernel
theorem dX11_forgeLaying_4 : decode cX11_forgeLaying 4 = .ok (.ifCond .eq 9, 3) := by decide +kernel
theorem dX11_forgeLaying_7 : decode cX11_forgeLaying 7 = .ok (.aload_n 0, 1) := by decide +kernel
theorem dX11_forgeLaying_8 : decode cX11_forgeLaying 8 = .ok (.iconst 0, 1) := by decide +kernel
theorem dX11_forgeLaying_9 : decode cX11_forgeLaying 9 = .ok (.invokevirtual 90, 3) := by decide +kernel
theorem dX11_forgeLaying_12 : decode cX11_forgeLaying 12 = .ok (.ireturn, 1) := by decide +kernel
theorem dX11_forgeLaying_13 : decode cX11_forgeLaying 13 = .ok (.aload_n 1, 1) := by decide +kernel
theorem dX11_forgeLaying_14 : decode cX11_forgeLaying 14 = .ok (.iconst 0, 1) := by decide +kernel
theorem dX11_forgeLaying_15 : decode cX11_forgeLaying 15 = .ok (.invokevirtual 302, 3) := by decide +kernel
theorem dX11_forgeLaying_18 : decode cX11_forgeLaying 18 = .ok (.ifCond .eq 14, 3) := by decide +kernel
theorem dX11_forgeLaying_21 : decode cX11_forgeLaying 21 = .ok (.aload_n 0, 1) := by decide +kernel
theorem dX11_forgeLaying_22 : decode cX11_forgeLaying 22 = .ok (.aload_n 1, 1) := by decide +kernel
theorem dX11_forgeLaying_23 : decode cX11_forgeLaying 23 = .ok (.invokevirtual 263, 3) := by decide +kernel
theorem dX11_forgeLaying_26 : decode cX11_forgeLaying 26 = .ok (.invokevirtual 90, 3) := by decide +kernel
theorem dX11_forgeLaying_29 : decode cX11_forgeLaying 29 = .ok (.goto 9, 3) := by decide +kernel
theorem dX11_forgeLaying_32 : decode cX11_forgeLaying 32 = .ok (.aload_n 0, 1) := by decide +kernel
theorem dX11_forgeLaying_33 : decode cX11_forgeLaying 33 = .ok (.bipush 14, 2) := by decide +kernel
theorem dX11_forgeLaying_35 : decode cX11_forgeLaying 35 = .ok (.invokevirtual 78, 3) := by decide +kernel
theorem dX11_forgeLaying_38 : decode cX11_forgeLaying 38 = .ok (.ireturn, 1) := by decide +kernel
theorem dX11_forgeUnit_0 : decode cX11_forgeUnit 0 = .ok (.aload_n 0, 1) := by decide +kernel
theorem dX11_forgeUnit_1 : decode cX11_forgeUnit 1 = .ok (.getfield 10, 3) := by decide +kernel
theorem dX11_forgeUnit_4 : decode cX11_forgeUnit 4 = .ok (.iload_n 1, 1) := by decide +kernel
theorem dX11_forgeUnit_5 : decode cX11_forgeUnit 5 = .ok (.invokevirtual 93, 3) := by decide +kernel
theorem dX11_forgeUnit_8 : decode cX11_forgeUnit 8 = .ok (.ifCond .ne 10, 3) := by decide +kernel
theorem dX11_forgeUnit_11 : decode cX11_forgeUnit 11 = .ok (.aload_n 0, 1) := by decide +kernel
theorem dX11_forgeUnit_12 : decode cX11_forgeUnit 12 = .ok (.bipush 10, 2) := by decide +kernel
theorem dX11_forgeUnit_14 : decode cX11_forgeUnit 14 = .ok (.invokevirtual 78, 3) := by decide +kernel
theorem dX11_forgeUnit_17 : decode cX11_forgeUnit 17 = .ok (.ireturn, 1) := by decide +kernel
theorem dX11_forgeUnit_18 : decode cX11_forgeUnit 18 = .ok (.aload_n 0, 1) := by decide +kernel
theorem dX11_forgeUnit_19 : decode cX11_forgeUnit 19 = .ok (.getfield 59, 3) := by decide +kernel
theorem dX11_forgeUnit_22 : decode cX11_forgeUnit 22 = .ok (.aload_n 0, 1) := by decide +kernel
theorem dX11_forgeUnit_23 : decode cX11_forgeUnit 23 = .ok (.getfield 10, 3) := by decide +kernel
theorem dX11_forgeUnit_26 : decode cX11_forgeUnit 26 = .ok (.iload_n 1, 1) := by decide +kernel
theorem dX11_forgeUnit_27 : decode cX11_forgeUnit 27 = .ok (.invokevirtual 135, 3) := by decide +kernel
theorem dX11_forgeUnit_30 : decode cX11_forgeUnit 30 = .ok (.aaload, 1) := by decide +kernel
theorem dX11_forgeUnit_31 : decode cX11_forgeUnit 31 = .ok (.instanceof 47, 3) := by decide +kernel
theorem dX11_forgeUnit_34 : decode cX11_forgeUnit 34 = .ok (.ifCond .eq 17, 3) := by decide +kernel
theorem dX11_forgeUnit_37 : decode cX11_forgeUnit 37 = .ok (.aload_n 0, 1) := by decide +kernel
theorem dX11_forgeUnit_38 : decode cX11_forgeUnit 38 = .ok (.aload_n 0, 1) := by decide +kernel
theorem dX11_forgeUnit_39 : decode cX11_forgeUnit 39 = .ok (.getfield 10, 3) := by decide +kernel
theorem dX11_forgeUnit_42 : decode cX11_forgeUnit 42 = .ok (.iload_n 1, 1) := by decide +kernel
theorem dX11_forgeUnit_43 : decode cX11_forgeUnit 43 = .ok (.iconst 0, 1) := by decide +kernel
theorem dX11_forgeUnit_44 : decode cX11_forgeUnit 44 = .ok (.invokevirtual 97, 3) := by decide +kernel
theorem dX11_forgeUnit_47 : decode cX11_forgeUnit 47 = .ok (.invokevirtual 90, 3) := by decide +kernel
theorem dX11_forgeUnit_50 : decode cX11_forgeUnit 50 = .ok (.ireturn, 1) := by decide +kernel
theorem dX11_forgeUnit_51 : decode cX11_forgeUnit 51 = .ok (.aload_n 0, 1) := by decide +kernel
theorem dX11_forgeUnit_52 : decode cX11_forgeUnit 52 = .ok (.bipush 11, 2) := by decide +kernel
theorem dX11_forgeUnit_54 : decode cX11_forgeUnit 54 = .ok (.invokevirtual 78, 3) := by decide +kernel
theorem dX11_forgeUnit_57 : decode cX11_forgeUnit 57 = .ok (.ireturn, 1) := by decide +kernel
theorem dX11_isSheet_0 : decode cX11_isSheet 0 = .ok (.iload_n 0, 1) := by decide +kernel
theorem dX11_isSheet_1 : decode cX11_isSheet 1 = .ok (.ifCond .lt 13, 3) := by decide +kernel
theorem dX11_isSheet_4 : decode cX11_isSheet 4 = .ok (.iload_n 0, 1) := by decide +kernel
theorem dX11_isSheet_5 : decode cX11_isSheet 5 = .ok (.bipush 6, 2) := by decide +kernel
theorem dX11_isSheet_7 : decode cX11_isSheet 7 = .ok (.if_icmp .ge 7, 3) := by decide +kernel
theorem dX11_isSheet_10 : decode cX11_isSheet 10 = .ok (.iconst 1, 1) := by decide +kernel
theorem dX11_isSheet_11 : decode cX11_isSheet 11 = .ok (.goto 4, 3) := by decide +kernel
theorem dX11_isSheet_14 : decode cX11_isSheet 14 = .ok (.iconst 0, 1) := by decide +kernel
theorem dX11_isSheet_15 : decode cX11_isSheet 15 = .ok (.ireturn, 1) := by decide +kernel
theorem dX11_asNumber_0 : decode cX11_asNumber 0 = .ok (.iload_n 0, 1) := by decide +kernel
theorem dX11_asNumber_1 : decode cX11_asNumber 1 = .ok (.ifCond .eq 7, 3) := by decide +kernel
theorem dX11_asNumber_4 : decode cX11_asNumber 4 = .ok (.iconst 1, 1) := by decide +kernel
theorem dX11_asNumber_5 : decode cX11_asNumber 5 = .ok (.goto 4, 3) := by decide +kernel
theorem dX11_asNumber_8 : decode cX11_asNumber 8 = .ok (.iconst 0, 1) := by decide +kernel
theorem dX11_asNumber_9 : decode cX11_asNumber 9 = .ok (.ireturn, 1) := by decide +kernel
theorem dX11_hasBit_0 : decode cX11_hasBit 0 = .ok (.iload_n 0, 1) := by decide +kernel
theorem dX11_hasBit_1 : decode cX11_hasBit 1 = .ok (.iload_n 1, 1) := by decide +kernel
theorem dX11_hasBit_2 : decode cX11_hasBit 2 = .ok (.ishr, 1) := by decide +kernel
theorem dX11_hasBit_3 : decode cX11_hasBit 3 = .ok (.iconst 1, 1) := by decide +kernel
theorem dX11_hasBit_4 : decode cX11_hasBit 4 = .ok (.iand, 1) := by decide +kernel
theorem dX11_hasBit_5 : decode cX11_hasBit 5 = .ok (.iconst 1, 1) := by decide +kernel
theorem dX11_hasBit_6 : decode cX11_hasBit 6 = .ok (.if_icmp .ne 7, 3) := by decide +kernel
theorem dX11_hasBit_9 : decode cX11_hasBit 9 = .ok (.iconst 1, 1) := by decide +kernel
theorem dX11_hasBit_10 : decode cX11_hasBit 10 = .ok (.goto 4, 3) := by decide +kernel
theorem dX11_hasBit_13 : decode cX11_hasBit 13 = .ok (.iconst 0, 1) := by decide +kernel
theorem dX11_hasBit_14 : decode cX11_hasBit 14 = .ok (.ireturn, 1) := by decide +kernel
theorem dX12_init_0 : decode cX12_init 0 = .ok (.aload_n 0, 1) := by decide +kernel
theorem dX12_init_1 : decode cX12_init 1 = .ok (.invokespecial 1, 3) := by decide +kernel
theorem dX12_init_4 : decode cX12_init 4 = .ok (.aload_n 0, 1) := by decide +kernel
theorem dX12_init_5 : decode cX12_init 5 = .ok (.bipush 12, 2) := by decide +kernel
theorem dX12_init_7 : decode cX12_init 7 = .ok (.newarray .int, 2) := by decide +kernel
theorem dX12_init_9 : decode cX12_init 9 = .ok (.putfield 7, 3) := by decide +kernel
theorem dX12_init_12 : decode cX12_init 12 = .ok (.aload_n 0, 1) := by decide +kernel
theorem dX12_init_13 : decode cX12_init 13 = .ok (.bipush 12, 2) := by decide +kernel
theorem dX12_init_15 : decode cX12_init 15 = .ok (.newarray .int, 2) := by decide +kernel
theorem dX12_init_17 : decode cX12_init 17 = .ok (.putfield 13, 3) := by decide +kernel
theorem dX12_init_20 : decode cX12_init 20 = .ok (.aload_n 0, 1) := by decide +kernel
theorem dX12_init_21 : decode cX12_init 21 = .ok (.bipush 12, 2) := by decide +kernel
theorem dX12_init_23 : decode cX12_init 23 = .ok (.newarray .int, 2) := by decide +kernel
theorem dX12_init_25 : decode cX12_init 25 = .ok (.putfield 16, 3) := by decide +kernel
theorem dX12_init_28 : decode cX12_init 28 = .ok (.aload_n 0, 1) := by decide +kernel
theorem dX12_init_29 : decode cX12_init 29 = .ok (.bipush 12, 2) := by decide +kernel
theorem dX12_init_31 : decode cX12_init 31 = .ok (.newarray .int, 2) := by decide +kernel
theorem dX12_init_33 : decode cX12_init 33 = .ok (.putfield 19, 3) := by decide +kernel
theorem dX12_init_36 : decode cX12_init 36 = .ok (.aload_n 0, 1) := by decide +kernel
theorem dX12_init_37 : decode cX12_init 37 = .ok (.bipush 12, 2) := by decide +kernel
theorem dX12_init_39 : decode cX12_init 39 = .ok (.newarray .int, 2) := by decide +kernel
theorem dX12_init_41 : decode cX12_init 41 = .ok (.putfield 22, 3) := by decide +kernel
theorem dX12_init_44 : decode cX12_init 44 = .ok (.aload_n 0, 1) := by decide +kernel
theorem dX12_init_45 : decode cX12_init 45 = .ok (.bipush 12, 2) := by decide +kernel
theorem dX12_init_47 : decode cX12_init 47 = .ok (.newarray .int, 2) := by decide +kernel
theorem dX12_init_49 : decode cX12_init 49 = .ok (.putfield 25, 3) := by decide +kernel
theorem dX12_init_52 : decode cX12_init 52 = .ok (.aload_n 0, 1) := by decide +kernel
theorem dX12_init_53 : decode cX12_init 53 = .ok (.bipush 12, 2) := by decide +kernel
theorem dX12_init_55 : decode cX12_init 55 = .ok (.newarray .int, 2) := by decide +kernel
theorem dX12_init_57 : decode cX12_init 57 = .ok (.putfield 28, 3) := by decide +kernel
theorem dX12_init_60 : decode cX12_init 60 = .ok (.aload_n 0, 1) := by decide +kernel
theorem dX12_init_61 : decode cX12_init 61 = .ok (.sipush 576, 3) := by decide +kernel
theorem dX12_init_64 : decode cX12_init 64 = .ok (.newarray .int, 2) := by decide +kernel
theorem dX12_init_66 : decode cX12_init 66 = .ok (.putfield 31, 3) := by decide +kernel
theorem dX12_init_69 : decode cX12_init 69 = .ok (.aload_n 0, 1) := by decide +kernel
theorem dX12_init_70 : decode cX12_init 70 = .ok (.bipush 6, 2) := by decide +kernel
theorem dX12_init_72 : decode cX12_init 72 = .ok (.newarray .int, 2) := by decide +kernel
theorem dX12_init_74 : decode cX12_init 74 = .ok (.putfield 34, 3) := by decide +kernel
theorem dX12_init_77 : decode cX12_init 77 = .ok (.aload_n 0, 1) := by decide +kernel
theorem dX12_init_78 : decode cX12_init 78 = .ok (.bipush 6, 2) := by decide +kernel
theorem dX12_init_80 : decode cX12_init 80 = .ok (.newarray .int, 2) := by decide +kernel
theorem dX12_init_82 : decode cX12_init 82 = .ok (.putfield 37, 3) := by decide +kernel
theorem dX12_init_85 : decode cX12_init 85 = .ok (.aload_n 0, 1) := by decide +kernel
theorem dX12_init_86 : decode cX12_init 86 = .ok (.bipush 120, 2) := by decide +kernel
theorem dX12_init_88 : decode cX12_init 88 = .ok (.newarray .long, 2) := by decide +kernel
theorem dX12_init_90 : decode cX12_init 90 = .ok (.putfield 40, 3) := by decide +kernel
theorem dX12_init_93 : decode cX12_init 93 = .ok (.aload_n 0, 1) := by decide +kernel
theorem dX12_init_94 : decode cX12_init 94 = .ok (.bipush 50, 2) := by decide +kernel
theorem dX12_init_96 : decode cX12_init 96 = .ok (.newarray .int, 2) := by decide +kernel
theorem dX12_init_98 : decode cX12_init 98 = .ok (.putfield 44, 3) := by decide +kernel
theorem dX12_init_101 : decode cX12_init 101 = .ok (.aload_n 0, 1) := by decide +kernel
theorem dX12_init_102 : decode cX12_init 102 = .ok (.sipush 4096, 3) := by decide +kernel
theorem dX12_init_105 : decode cX12_init 105 = .ok (.newarray .int, 2) := by decide +kernel
theorem dX12_init_107 : decode cX12_init 107 = .ok (.putfield 47, 3) := by decide +kernel
theorem dX12_init_110 : decode cX12_init 110 = .ok (.aload_n 0, 1) := by decide +kernel
theorem dX12_init_111 : decode cX12_init 111 = .ok (.sipush 4096, 3) := by decide +kernel
theorem dX12_init_114 : decode cX12_init 114 = .ok (.newarray .int, 2) := by decide +kernel
theorem dX12_init_116 : decode cX12_init 116 = .ok (.putfield 50, 3) := by decide +kernel
theorem dX12_init_119 : decode cX12_init 119 = .ok (.aload_n 0, 1) := by decide +kernel
theorem dX12_init_120 : decode cX12_init 120 = .ok (.sipush 4096, 3) := by decide +kernel
theorem dX12_init_123 : decode cX12_init 123 = .ok (.newarray .int, 2) := by decide +kernel
theorem dX12_init_125 : decode cX12_init 125 = .ok (.putfield 53, 3) := by decide +kernel
theorem dX12_init_128 : decode cX12_init 128 = .ok (.aload_n 0, 1) := by decide +kernel
theorem dX12_init_129 : decode cX12_init 129 = .ok (.sipush 4096, 3) := by decide +kernel
theorem dX12_init_132 : decode cX12_init 132 = .ok (.newarray .int, 2) := by decide +kernel
theorem dX12_init_134 : decode cX12_init 134 = .ok (.putfield 56, 3) := by decide +kernel
theorem dX12_init_137 : decode cX12_init 137 = .ok (.aload_n 0, 1) := by decide +kernel
theorem dX12_init_138 : decode cX12_init 138 = .ok (.bipush 12, 2) := by decide +kernel
theorem dX12_init_140 : decode cX12_init 140 = .ok (.newarray .int, 2) := by decide +kernel
theorem dX12_init_142 : decode cX12_init 142 = .ok (.putfield 59, 3) := by decide +kernel
theorem dX12_init_145 : decode cX12_init 145 = .ok (.aload_n 0, 1) := by decide +kernel
theorem dX12_init_146 : decode cX12_init 146 = .ok (.bipush 12, 2) := by decide +kernel
theorem dX12_init_148 : decode cX12_init 148 = .ok (.newarray .int, 2) := by decide +kernel
theorem dX12_init_150 : decode cX12_init 150 = .ok (.putfield 62, 3) := by decide +kernel
theorem dX12_init_153 : decode cX12_init 153 = .ok (.aload_n 0, 1) := by decide +kernel
theorem dX12_init_154 : decode cX12_init 154 = .ok (.bipush 12, 2) := by decide +kernel
theorem dX12_init_156 : decode cX12_init 156 = .ok (.newarray .int, 2) := by decide +kernel
theorem dX12_init_158 : decode cX12_init 158 = .ok (.putfield 65, 3) := by decide +kernel
theorem dX12_init_161 : decode cX12_init 161 = .ok (.aload_n 0, 1) := by decide +kernel
theorem dX12_init_162 : decode cX12_init 162 = .ok (.bipush 12, 2) := by decide +kernel
theorem dX12_init_164 : decode cX12_init 164 = .ok (.newarray .int, 2) := by decide +kernel
theorem dX12_init_166 : decode cX12_init 166 = .ok (.putfield 68, 3) := by decide +kernel
theorem dX12_init_169 : decode cX12_init 169 = .ok (.iconst 0, 1) := by decide +kernel
theorem dX12_init_170 : decode cX12_init 170 = .ok (.istore_n 1, 1) := by decide +kernel
theorem dX12_init_171 : decode cX12_init 171 = .ok (.iload_n 1, 1) := by decide +kernel
theorem dX12_init_172 : decode cX12_init 172 = .ok (.bipush 6, 2) := by decide +kernel
theorem dX12_init_174 : decode cX12_init 174 = .ok (.if_icmp .ge 16, 3) := by decide +kernel
theorem dX12_init_177 : decode cX12_init 177 = .ok (.aload_n 0, 1) := by decide +kernel
theorem dX12_init_178 : decode cX12_init 178 = .ok (.getfield 34, 3) := by decide +kernel
theorem dX12_init_181 : decode cX12_init 181 = .ok (.iload_n 1, 1) := by decide +kernel
theorem dX12_init_182 : decode cX12_init 182 = .ok (.iconst (-1), 1) := by decide +kernel
theorem dX12_init_183 : decode cX12_init 183 = .ok (.iastore, 1) := by decide +kernel
theorem dX12_init_184 : decode cX12_init 184 = .ok (.iinc 1 1, 3) := by decide +kernel
theorem dX12_init_187 : decode cX12_init 187 = .ok (.goto (-16), 3) := by decide +kernel
theorem dX12_init_190 : decode cX12_init 190 = .ok (.return_, 1) := by decide +kernel
theorem dX12_in_0 : decode cX12_in 0 = .ok (.iload_n 0, 1) := by decide +kernel
theorem dX12_in_1 : decode cX12_in 1 = .ok (.iload_n 1, 1) := by decide +kernel
theorem dX12_in_2 : decode cX12_in 2 = .ok (.if_icmp .lt 12, 3) := by decide +kernel
theorem dX12_in_5 : decode cX12_in 5 = .ok (.iload_n 0, 1) := by decide +kernel
theorem dX12_in_6 : decode cX12_in 6 = .ok (.iload_n 2, 1) := by decide +kernel
theorem dX12_in_7 : decode cX12_in 7 = .ok (.if_icmp .gt 7, 3) := by decide +kernel
theorem dX12_in_10 : decode cX12_in 10 = .ok (.iconst 1, 1) := by decide +kernel
theorem dX12_in_11 : decode cX12_in 11 = .ok (.goto 4, 3) := by decide +kernel
theorem dX12_in_14 : decode cX12_in 14 = .ok (.iconst 0, 1) := by decide +kernel
theorem dX12_in_15 : decode cX12_in 15 = .ok (.ireturn, 1) := by decide +kernel
theorem dX12_refused_0 : decode cX12_refused 0 = .ok (.aload_n 0, 1) := by decide +kernel
theorem dX12_refused_1 : decode cX12_refused 1 = .ok (.iload_n 1, 1) := by decide +kernel
theorem dX12_refused_2 : decode cX12_refused 2 = .ok (.putfield 71, 3) := by decide +kernel
theorem dX12_refused_5 : decode cX12_refused 5 = .ok (.iconst (-1), 1) := by decide +kernel
theorem dX12_refused_6 : decode cX12_refused 6 = .ok (.ireturn, 1) := by decide +kernel
theorem dX12_done_0 : decode cX12_done 0 = .ok (.aload_n 0, 1) := by decide +kernel
theorem dX12_done_1 : decode cX12_done 1 = .ok (.iconst 0, 1) := by decide +kernel
theorem dX12_done_2 : decode cX12_done 2 = .ok (.putfield 71, 3) := by decide +kernel
theorem dX12_done_5 : decode cX12_done 5 = .ok (.iload_n 1, 1) := by decide +kernel
theorem dX12_done_6 : decode cX12_done 6 = .ok (.ireturn, 1) := by decide +kernel
theorem dX12_isJob_0 : decode cX12_isJob 0 = .ok (.iload_n 1, 1) := by decide +kernel
theorem dX12_isJob_1 : decode cX12_isJob 1 = .ok (.iconst 0, 1) := by decide +kernel
theorem dX12_isJob_2 : decode cX12_isJob 2 = .ok (.aload_n 0, 1) := by decide +kernel
theorem dX12_isJob_3 : decode cX12_isJob 3 = .ok (.getfield 75, 3) := by decide +kernel
theorem dX12_isJob_6 : decode cX12_isJob 6 = .ok (.iconst 1, 1) := by decide +kernel
theorem dX12_isJob_7 : decode cX12_isJob 7 = .ok (.isub, 1) := by decide +kernel
theorem dX12_isJob_8 : decode cX12_isJob 8 = .ok (.invokestatic 78, 3) := by decide +kernel
theorem dX12_isJob_11 : decode cX12_isJob 11 = .ok (.ireturn, 1) := by decide +kernel
theorem dX12_has_0 : decode cX12_has 0 = .ok (.iload_n 0, 1) := by decide +kernel
theorem dX12_has_1 : decode cX12_has 1 = .ok (.iload_n 1, 1) := by decide +kernel
theorem dX12_has_2 : decode cX12_has 2 = .ok (.ishr, 1) := by decide +kernel
theorem dX12_has_3 : decode cX12_has 3 = .ok (.iconst 1, 1) := by decide +kernel
theorem dX12_has_4 : decode cX12_has 4 = .ok (.iand, 1) := by decide +kernel
theorem dX12_has_5 : decode cX12_has 5 = .ok (.iconst 1, 1) := by decide +kernel
theorem dX12_has_6 : decode cX12_has 6 = .ok (.if_icmp .ne 7, 3) := by decide +kernel
theorem dX12_has_9 : decode cX12_has 9 = .ok (.iconst 1, 1) := by decide +kernel
theorem dX12_has_10 : decode cX12_has 10 = .ok (.goto 4, 3) := by decide +kernel
theorem dX12_has_13 : decode cX12_has 13 = .ok (.iconst 0, 1) := by decide +kernel
theorem dX12_has_14 : decode cX12_has 14 = .ok (.ireturn, 1) := by decide +kernel
theorem dX12_bits_0 : decode cX12_bits 0 = .ok (.iconst 0, 1) := by decide +kernel
theorem dX12_bits_1 : decode cX12_bits 1 = .ok (.istore_n 1, 1) := by decide +kernel
theorem dX12_bits_2 : decode cX12_bits 2 = .ok (.iconst 0, 1) := by decide +kernel
theorem dX12_bits_3 : decode cX12_bits 3 = .ok (.istore_n 2, 1) := by decide +kernel
theorem dX12_bits_4 : decode cX12_bits 4 = .ok (.iload_n 2, 1) := by decide +kernel
theorem dX12_bits_5 : decode cX12_bits 5 = .ok (.bipush 12, 2) := by decide +kernel
theorem dX12_bits_7 : decode cX12_bits 7 = .ok (.if_icmp .ge 17, 3) := by decide +kernel
theorem dX12_bits_10 : decode cX12_bits 10 = .ok (.iload_n 1, 1) := by decide +kernel
theorem dX12_bits_11 : decode cX12_bits 11 = .ok (.iload_n 0, 1) := by decide +kernel
theorem dX12_bits_12 : decode cX12_bits 12 = .ok (.iload_n 2, 1) := by decide +kernel
theorem dX12_bits_13 : decode cX12_bits 13 = .ok (.ishr, 1) := by decide +kernel
theorem dX12_bits_14 : decode cX12_bits 14 = .ok (.iconst 1, 1) := by decide +kernel
theorem dX12_bits_15 : decode cX12_bits 15 = .ok (.iand, 1) := by decide +kernel
theorem dX12_bits_16 : decode cX12_bits 16 = .ok (.iadd, 1) := by decide +kernel
theorem dX12_bits_17 : decode cX12_bits 17 = .ok (.istore_n 1, 1) := by decide +kernel
theorem dX12_bits_18 : decode cX12_bits 18 = .ok (.iinc 2 1, 3) := by decide +kernel
theorem dX12_bits_21 : decode cX12_bits 21 = .ok (.goto (-17), 3) := by decide +kernel
theorem dX12_bits_24 : decode cX12_bits 24 = .ok (.iload_n 1, 1) := by decide +kernel
theorem dX12_bits_25 : decode cX12_bits 25 = .ok (.ireturn, 1) := by decide +kernel
theorem dX12_close_0 : decode cX12_close 0 = .ok (.iconst 0, 1) := by decide +kernel
theorem dX12_close_1 : decode cX12_close 1 = .ok (.istore_n 1, 1) := by decide +kernel
theorem dX12_close_2 : decode cX12_close 2 = .ok (.iload_n 1, 1) := by decide +kernel
theorem dX12_close_3 : decode cX12_close 3 = .ok (.aload_n 0, 1) := by decide +kernel
theorem dX12_close_4 : decode cX12_close 4 = .ok (.getfield 75, 3) := by decide +kernel
theorem dX12_close_7 : decode cX12_close 7 = .ok (.if_icmp .ge 21, 3) := by decide +kernel
theorem dX12_close_10 : decode cX12_close 10 = .ok (.aload_n 0, 1) := by decide +kernel
theorem dX12_close_11 : decode cX12_close 11 = .ok (.getfield 22, 3) := by decide +kernel
theorem dX12_close_14 : decode cX12_close 14 = .ok (.iload_n 1, 1) := by decide +kernel
theorem dX12_close_15 : decode cX12_close 15 = .ok (.aload_n 0, 1) := by decide +kernel
theorem dX12_close_16 : decode cX12_close 16 = .ok (.getfield 19, 3) := by decide +kernel
theorem dX12_close_19 : decode cX12_close 19 = .ok (.iload_n 1, 1) := by decide +kernel
theorem dX12_close_20 : decode cX12_close 20 = .ok (.iaload, 1) := by decide +kernel
theorem dX12_close_21 : decode cX12_close 21 = .ok (.iastore, 1) := by decide +kernel
theorem dX12_close_22 : decode cX12_close 22 = .ok (.iinc 1 1, 3) := by decide +kernel
theorem dX12_close_25 : decode cX12_close 25 = .ok (.goto (-23), 3) := by decide +kernel
theorem dX12_close_28 : decode cX12_close 28 = .ok (.iconst 0, 1) := by decide +kernel
theorem dX12_close_29 : decode cX12_close 29 = .ok (.istore_n 1, 1) := by decide +kernel
theorem dX12_close_30 : decode cX12_close 30 = .ok (.iload_n 1, 1) := by decide +kernel
theorem dX12_close_31 : decode cX12_close 31 = .ok (.aload_n 0, 1) := by decide +kernel
theorem dX12_close_32 : decode cX12_close 32 = .ok (.getfield 75, 3) := by decide +kernel
theorem dX12_close_35 : decode cX12_close 35 = .ok (.if_icmp .ge 57, 3) := by decide +kernel
theorem dX12_close_38 : decode cX12_close 38 = .ok (.iconst 0, 1) := by decide +kernel
theorem dX12_close_39 : decode cX12_close 39 = .ok (.istore_n 2, 1) := by decide +kernel
theorem dX12_close_40 : decode cX12_close 40 = .ok (.iload_n 2, 1) := by decide +kernel
theorem dX12_close_41 : decode cX12_close 41 = .ok (.aload_n 0, 1) := by decide +kernel
theorem dX12_close_42 : decode cX12_close 42 = .ok (.getfield 75, 3) := by decide +kernel
theorem dX12_close_45 : decode cX12_close 45 = .ok (.if_icmp .ge 41, 3) := by decide +kernel
theorem dX12_close_48 : decode cX12_close 48 = .ok (.aload_n 0, 1) := by decide +kernel
theorem dX12_close_49 : decode cX12_close 49 = .ok (.getfield 22, 3) := by decide +kernel
theorem dX12_close_52 : decode cX12_close 52 = .ok (.iload_n 2, 1) := by decide +kernel
theorem dX12_close_53 : decode cX12_close 53 = .ok (.dup2, 1) := by decide +kernel
theorem dX12_close_54 : decode cX12_close 54 = .ok (.iaload, 1) := by decide +kernel
theorem dX12_close_55 : decode cX12_close 55 = .ok (.aload_n 0, 1) := by decide +kernel
theorem dX12_close_56 : decode cX12_close 56 = .ok (.getfield 22, 3) := by decide +kernel
theorem dX12_close_59 : decode cX12_close 59 = .ok (.iload_n 2, 1) := by decide +kernel
theorem dX12_close_60 : decode cX12_close 60 = .ok (.iaload, 1) := by decide +kernel
theorem dX12_close_61 : decode cX12_close 61 = .ok (.iload_n 1, 1) := by decide +kernel
theorem dX12_close_62 : decode cX12_close 62 = .ok (.invokestatic 82, 3) := by decide +kernel
theorem dX12_close_65 : decode cX12_close 65 = .ok (.ifCond .eq 12, 3) := by decide +kernel
theorem dX12_close_68 : decode cX12_close 68 = .ok (.aload_n 0, 1) := by decide +kernel
theorem dX12_close_69 : decode cX12_close 69 = .ok (.getfield 22, 3) := by decide +kernel
theorem dX12_close_72 : decode cX12_close 72 = .ok (.iload_n 1, 1) := by decide +kernel
theorem dX12_close_73 : decode cX12_close 73 = .ok (.iaload, 1) := by decide +kernel
theorem dX12_close_74 : decode cX12_close 74 = .ok (.goto 4, 3) := by decide +kernel
theorem dX12_close_77 : decode cX12_close 77 = .ok (.iconst 0, 1) := by decide +kernel
theorem dX12_close_78 : decode cX12_close 78 = .ok (.ior, 1) := by decide +kernel
theorem dX12_close_79 : decode cX12_close 79 = .ok (.iastore, 1) := by decide +kernel
theorem dX12_close_80 : decode cX12_close 80 = .ok (.iinc 2 1, 3) := by decide +kernel
theorem dX12_close_83 : decode cX12_close 83 = .ok (.goto (-43), 3) := by decide +kernel
theorem dX12_close_86 : decode cX12_close 86 = .ok (.iinc 1 1, 3) := by decide +kernel
theorem dX12_close_89 : decode cX12_close 89 = .ok (.goto (-59), 3) := by decide +kernel
theorem dX12_close_92 : decode cX12_close 92 = .ok (.return_, 1) := by decide +kernel
theorem dX12_keep_0 : decode cX12_keep 0 = .ok (.aload_n 0, 1) := by decide +kernel
theorem dX12_keep_1 : decode cX12_keep 1 = .ok (.getfield 86, 3) := by decide +kernel
theorem dX12_keep_4 : decode cX12_keep 4 = .ok (.bipush 12, 2) := by decide +kernel
theorem dX12_keep_6 : decode cX12_keep 6 = .ok (.if_icmp .ne 81, 3) := by decide +kernel
theorem dX12_keep_9 : decode cX12_keep 9 = .ok (.aload_n 0, 1) := by decide +kernel
theorem dX12_keep_10 : decode cX12_keep 10 = .ok (.dup, 1) := by decide +kernel
theorem dX12_keep_11 : decode cX12_keep 11 = .ok (.getfield 86, 3) := by decide +kernel
theorem dX12_keep_14 : decode cX12_keep 14 = .ok (.iconst 1, 1) := by decide +kernel
theorem dX12_keep_15 : decode cX12_keep 15 = .ok (.isub, 1) := by decide +kernel
theorem dX12_keep_16 : decode cX12_keep 16 = .ok (.putfield 86, 3) := by decide +kernel
theorem dX12_keep_19 : decode cX12_keep 19 = .ok (.iconst 0, 1) := by decide +kernel
theorem dX12_keep_20 : decode cX12_keep 20 = .ok (.istore_n 1, 1) := by decide +kernel
theorem dX12_keep_21 : decode cX12_keep 21 = .ok (.iload_n 1, 1) := by decide +kernel
theorem dX12_keep_22 : decode cX12_keep 22 = .ok (.aload_n 0, 1) := by decide +kernel
theorem dX12_keep_23 : decode cX12_keep 23 = .ok (.getfield 86, 3) := by decide +kernel
theorem dX12_keep_26 : decode cX12_keep 26 = .ok (.if_icmp .ge 61, 3) := by decide +kernel
theorem dX12_keep_29 : decode cX12_keep 29 = .ok (.aload_n 0, 1) := by decide +kernel
theorem dX12_keep_30 : decode cX12_keep 30 = .ok (.getfield 28, 3) := by decide +kernel
theorem dX12_keep_33 : decode cX12_keep 33 = .ok (.iload_n 1, 1) := by decide +kernel
theorem dX12_keep_34 : decode cX12_keep 34 = .ok (.aload_n 0, 1) := by decide +kernel
theorem dX12_keep_35 : decode cX12_keep 35 = .ok (.getfield 28, 3) := by decide +kernel
theorem dX12_keep_38 : decode cX12_keep 38 = .ok (.iload_n 1, 1) := by decide +kernel
theorem dX12_keep_39 : decode cX12_keep 39 = .ok (.iconst 1, 1) := by decide +kernel
theorem dX12_keep_40 : decode cX12_keep 40 = .ok (.iadd, 1) := by decide +kernel
theorem dX12_keep_41 : decode cX12_keep 41 = .ok (.iaload, 1) := by decide +kernel
theorem dX12_keep_42 : decode cX12_keep 42 = .ok (.iastore, 1) := by decide +kernel
theorem dX12_keep_43 : decode cX12_keep 43 = .ok (.iconst 0, 1) := by decide +kernel
theorem dX12_keep_44 : decode cX12_keep 44 = .ok (.istore_n 2, 1) := by decide +kernel
theorem dX12_keep_45 : decode cX12_keep 45 = .ok (.iload_n 2, 1) := by decide +kernel
theorem dX12_keep_46 : decode cX12_keep 46 = .ok (.bipush 48, 2) := by decide +kernel
theorem dX12_keep_48 : decode cX12_keep 48 = .ok (.if_icmp .ge 33, 3) := by decide +kernel
theorem dX12_keep_51 : decode cX12_keep 51 = .ok (.aload_n 0, 1) := by decide +kernel
theorem dX12_keep_52 : decode cX12_keep 52 = .ok (.getfield 31, 3) := by decide +kernel
theorem dX12_keep_55 : decode cX12_keep 55 = .ok (.bipush 48, 2) := by decide +kernel
theorem dX12_keep_57 : decode cX12_keep 57 = .ok (.iload_n 1, 1) := by decide +kernel
theorem dX12_keep_58 : decode cX12_keep 58 = .ok (.imul, 1) := by decide +kernel
theorem dX12_keep_59 : decode cX12_keep 59 = .ok (.iload_n 2, 1) := by decide +kernel
theorem dX12_keep_60 : decode cX12_keep 60 = .ok (.iadd, 1) := by decide +kernel
theorem dX12_keep_61 : decode cX12_keep 61 = .ok (.aload_n 0, 1) := by decide +kernel
theorem dX12_keep_62 : decode cX12_keep 62 = .ok (.getfield 31, 3) := by decide +kernel
theorem dX12_keep_65 : decode cX12_keep 65 = .ok (.bipush 48, 2) := by decide +kernel
theorem dX12_keep_67 : decode cX12_keep 67 = .ok (.iload_n 1, 1) := by decide +kernel
theorem dX12_keep_68 : decode cX12_keep 68 = .ok (.iconst 1, 1) := by decide +kernel
theorem dX12_keep_69 : decode cX12_keep 69 = .ok (.iadd, 1) := by decide +kernel
theorem dX12_keep_70 : decode cX12_keep 70 = .ok (.imul, 1) := by decide +kernel
theorem dX12_keep_71 : decode cX12_keep 71 = .ok (.iload_n 2, 1) := by decide +kernel
theorem dX12_keep_72 : decode cX12_keep 72 = .ok (.iadd, 1) := by decide +kernel
theorem dX12_keep_73 : decode cX12_keep 73 = .ok (.iaload, 1) := by decide +kernel
theorem dX12_keep_74 : decode cX12_keep 74 = .ok (.iastore, 1) := by decide +kernel
theorem dX12_keep_75 : decode cX12_keep 75 = .ok (.iinc 2 1, 3) := by decide +kernel
theorem dX12_keep_78 : decode cX12_keep 78 = .ok (.goto (-33), 3) := by decide +kernel
theorem dX12_keep_81 : decode cX12_keep 81 = .ok (.iinc 1 1, 3) := by decide +kernel
theorem dX12_keep_84 : decode cX12_keep 84 = .ok (.goto (-63), 3) := by decide +kernel
theorem dX12_keep_87 : decode cX12_keep 87 = .ok (.aload_n 0, 1) := by decide +kernel
theorem dX12_keep_88 : decode cX12_keep 88 = .ok (.getfield 28, 3) := by decide +kernel
theorem dX12_keep_91 : decode cX12_keep 91 = .ok (.aload_n 0, 1) := by decide +kernel
theorem dX12_keep_92 : decode cX12_keep 92 = .ok (.getfield 86, 3) := by decide +kernel
theorem dX12_keep_95 : decode cX12_keep 95 = .ok (.aload_n 0, 1) := by decide +kernel
theorem dX12_keep_96 : decode cX12_keep 96 = .ok (.getfield 75, 3) := by decide +kernel
theorem dX12_keep_99 : decode cX12_keep 99 = .ok (.iastore, 1) := by decide +kernel
theorem dX12_keep_100 : decode cX12_keep 100 = .ok (.iconst 0, 1) := by decide +kernel
theorem dX12_keep_101 : decode cX12_keep 101 = .ok (.istore_n 1, 1) := by decide +kernel
theorem dX12_keep_102 : decode cX12_keep 102 = .ok (.iload_n 1, 1) := by decide +kernel
theorem dX12_keep_103 : decode cX12_keep 103 = .ok (.bipush 12, 2) := by decide +kernel
theorem dX12_keep_105 : decode cX12_keep 105 = .ok (.if_icmp .ge 75, 3) := by decide +kernel
theorem dX12_keep_108 : decode cX12_keep 108 = .ok (.bipush 48, 2) := by decide +kernel
theorem dX12_keep_110 : decode cX12_keep 110 = .ok (.aload_n 0, 1) := by decide +kernel
theorem dX12_keep_111 : decode cX12_keep 111 = .ok (.getfield 86, 3) := by decide +kernel
theorem dX12_keep_114 : decode cX12_keep 114 = .ok (.imul, 1) := by decide +kernel
theorem dX12_keep_115 : decode cX12_keep 115 = .ok (.iconst 4, 1) := by decide +kernel
theorem dX12_keep_116 : decode cX12_keep 116 = .ok (.iload_n 1, 1) := by decide +kernel
theorem dX12_keep_117 : decode cX12_keep 117 = .ok (.imul, 1) := by decide +kernel
theorem dX12_keep_118 : decode cX12_keep 118 = .ok (.iadd, 1) := by decide +kernel
theorem dX12_keep_119 : decode cX12_keep 119 = .ok (.istore_n 2, 1) := by decide +kernel
theorem dX12_keep_120 : decode cX12_keep 120 = .ok (.aload_n 0, 1) := by decide +kernel
theorem dX12_keep_121 : decode cX12_keep 121 = .ok (.getfield 31, 3) := by decide +kernel
theorem dX12_keep_124 : decode cX12_keep 124 = .ok (.iload_n 2, 1) := by decide +kernel
theorem dX12_keep_125 : decode cX12_keep 125 = .ok (.aload_n 0, 1) := by decide +kernel
theorem dX12_keep_126 : decode cX12_keep 126 = .ok (.getfield 7, 3) := by decide +kernel
theorem dX12_keep_129 : decode cX12_keep 129 = .ok (.iload_n 1, 1) := by decide +kernel
theorem dX12_keep_130 : decode cX12_keep 130 = .ok (.iaload, 1) := by decide +kernel
theorem dX12_keep_131 : decode cX12_keep 131 = .ok (.iastore, 1) := by decide +kernel
theorem dX12_keep_132 : decode cX12_keep 132 = .ok (.aload_n 0, 1) := by decide +kernel
theorem dX12_keep_133 : decode cX12_keep 133 = .ok (.getfield 31, 3) := by decide +kernel
theorem dX12_keep_136 : decode cX12_keep 136 = .ok (.iload_n 2, 1) := by decide +kernel
theorem dX12_keep_137 : decode cX12_keep 137 = .ok (.iconst 1, 1) := by decide +kernel
theorem dX12_keep_138 : decode cX12_keep 138 = .ok (.iadd, 1) := by decide +kernel
theorem dX12_keep_139 : decode cX12_keep 139 = .ok (.aload_n 0, 1) := by decide +kernel
theorem dX12_keep_140 : decode cX12_keep 140 = .ok (.getfield 13, 3) := by decide +kernel
theorem dX12_keep_143 : decode cX12_keep 143 = .ok (.iload_n 1, 1) := by decide +kernel
theorem dX12_keep_144 : decode cX12_keep 144 = .ok (.iaload, 1) := by decide +kernel
theorem dX12_keep_145 : decode cX12_keep 145 = .ok (.iastore, 1) := by decide +kernel
theorem dX12_keep_146 : decode cX12_keep 146 = .ok (.aload_n 0, 1) := by decide +kernel
theorem dX12_keep_147 : decode cX12_keep 147 = .ok (.getfield 31, 3) := by decide +kernel
theorem dX12_keep_150 : decode cX12_keep 150 = .ok (.iload_n 2, 1) := by decide +kernel
theorem dX12_keep_151 : decode cX12_keep 151 = .ok (.iconst 2, 1) := by decide +kernel
theorem dX12_keep_152 : decode cX12_keep 152 = .ok (.iadd, 1) := by decide +kernel
theorem dX12_keep_153 : decode cX12_keep 153 = .ok (.aload_n 0, 1) := by decide +kernel
theorem dX12_keep_154 : decode cX12_keep 154 = .ok (.getfield 16, 3) := by decide +kernel
theorem dX12_keep_157 : decode cX12_keep 157 = .ok (.iload_n 1, 1) := by decide +kernel
theorem dX12_keep_158 : decode cX12_keep 158 = .ok (.iaload, 1) := by decide +kernel
theorem dX12_keep_159 : decode cX12_keep 159 = .ok (.iastore, 1) := by decide +kernel
theorem dX12_keep_160 : decode cX12_keep 160 = .ok (.aload_n 0, 1) := by decide +kernel
theorem dX12_keep_161 : decode cX12_keep 161 = .ok (.getfield 31, 3) := by decide +kernel
theorem dX12_keep_164 : decode cX12_keep 164 = .ok (.iload_n 2, 1) := by decide +kernel
theorem dX12_keep_165 : decode cX12_keep 165 = .ok (.iconst 3, 1) := by decide +kernel
theorem dX12_keep_166 : decode cX12_keep 166 = .ok (.iadd, 1) := by decide +kernel
theorem dX12_keep_167 : decode cX12_keep 167 = .ok (.aload_n 0, 1) := by decide +kernel
theorem dX12_keep_168 : decode cX12_keep 168 = .ok (.getfield 19, 3) := by decide +kernel
theorem dX12_keep_171 : decode cX12_keep 171 = .ok (.iload_n 1, 1) := by decide +kernel
theorem dX12_keep_172 : decode cX12_keep 172 = .ok (.iaload, 1) := by decide +kernel
theorem dX12_keep_173 : decode cX12_keep 173 = .ok (.iastore, 1) := by decide +kernel
theorem dX12_keep_174 : decode cX12_keep 174 = .ok (.iinc 1 1, 3) := by decide +kernel
theorem dX12_keep_177 : decode cX12_keep 177 = .ok (.goto (-75), 3) := by decide +kernel
theorem dX12_keep_180 : decode cX12_keep 180 = .ok (.aload_n 0, 1) := by decide +kernel
theorem dX12_keep_181 : decode cX12_keep 181 = .ok (.dup, 1) := by decide +kernel
theorem dX12_keep_182 : decode cX12_keep 182 = .ok (.getfield 86, 3) := by decide +kernel
theorem dX12_keep_185 : decode cX12_keep 185 = .ok (.iconst 1, 1) := by decide +kernel
theorem dX12_keep_186 : decode cX12_keep 186 = .ok (.iadd, 1) := by decide +kernel
theorem dX12_keep_187 : decode cX12_keep 187 = .ok (.putfield 86, 3) := by decide +kernel
theorem dX12_keep_190 : decode cX12_keep 190 = .ok (.return_, 1) := by decide +kernel
theorem dX12_undo_0 : decode cX12_undo 0 = .ok (.aload_n 0, 1) := by decide +kernel
theorem dX12_undo_1 : decode cX12_undo 1 = .ok (.getfield 86, 3) := by decide +kernel
theorem dX12_undo_4 : decode cX12_undo 4 = .ok (.ifCond .ne 9, 3) := by decide +kernel
theorem dX12_undo_7 : decode cX12_undo 7 = .ok (.aload_n 0, 1) := by decide +kernel
theorem dX12_undo_8 : decode cX12_undo 8 = .ok (.iconst 3, 1) := by decide +kernel
theorem dX12_undo_9 : decode cX12_undo 9 = .ok (.invokevirtual 89, 3) := by decide +kernel
theorem dX12_undo_12 : decode cX12_undo 12 = .ok (.ireturn, 1) := by decide +kernel
theorem dX12_undo_13 : decode cX12_undo 13 = .ok (.aload_n 0, 1) := by decide +kernel
theorem dX12_undo_14 : decode cX12_undo 14 = .ok (.dup, 1) := by decide +kernel
theorem dX12_undo_15 : decode cX12_undo 15 = .ok (.getfield 86, 3) := by decide +kernel
theorem dX12_undo_18 : decode cX12_undo 18 = .ok (.iconst 1, 1) := by decide +kernel
theorem dX12_undo_19 : decode cX12_undo 19 = .ok (.isub, 1) := by decide +kernel
theorem dX12_undo_20 : decode cX12_undo 20 = .ok (.putfield 86, 3) := by decide +kernel
theorem dX12_undo_23 : decode cX12_undo 23 = .ok (.aload_n 0, 1) := by decide +kernel
theorem dX12_undo_24 : decode cX12_undo 24 = .ok (.aload_n 0, 1) := by decide +kernel
theorem dX12_undo_25 : decode cX12_undo 25 = .ok (.getfield 28, 3) := by decide +kernel
theorem dX12_undo_28 : decode cX12_undo 28 = .ok (.aload_n 0, 1) := by decide +kernel
theorem dX12_undo_29 : decode cX12_undo 29 = .ok (.getfield 86, 3) := by decide +kernel
theorem dX12_undo_32 : decode cX12_undo 32 = .ok (.iaload, 1) := by decide +kernel
theorem dX12_undo_33 : decode cX12_undo 33 = .ok (.putfield 75, 3) := by decide +kernel
theorem dX12_undo_36 : decode cX12_undo 36 = .ok (.iconst 0, 1) := by decide +kernel
theorem dX12_undo_37 : decode cX12_undo 37 = .ok (.istore_n 1, 1) := by decide +kernel
theorem dX12_undo_38 : decode cX12_undo 38 = .ok (.iload_n 1, 1) := by decide +kernel
theorem dX12_undo_39 : decode cX12_undo 39 = .ok (.bipush 12, 2) := by decide +kernel
theorem dX12_undo_41 : decode cX12_undo 41 = .ok (.if_icmp .ge 75, 3) := by decide +kernel
theorem dX12_undo_44 : decode cX12_undo 44 = .ok (.bipush 48, 2) := by decide +kernel
theorem dX12_undo_46 : decode cX12_undo 46 = .ok (.aload_n 0, 1) := by decide +kernel
theorem dX12_undo_47 : decode cX12_undo 47 = .ok (.getfield 86, 3) := by decide +kernel
theorem dX12_undo_50 : decode cX12_undo 50 = .ok (.imul, 1) := by decide +kernel
theorem dX12_undo_51 : decode cX12_undo 51 = .ok (.iconst 4, 1) := by decide +kernel
theorem dX12_undo_52 : decode cX12_undo 52 = .ok (.iload_n 1, 1) := by decide +kernel
theorem dX12_undo_53 : decode cX12_undo 53 = .ok (.imul, 1) := by decide +kernel
theorem dX12_undo_54 : decode cX12_undo 54 = .ok (.iadd, 1) := by decide +kernel
theorem dX12_undo_55 : decode cX12_undo 55 = .ok (.istore_n 2, 1) := by decide +kernel
theorem dX12_undo_56 : decode cX12_undo 56 = .ok (.aload_n 0, 1) := by decide +kernel
theorem dX12_undo_57 : decode cX12_undo 57 = .ok (.getfield 7, 3) := by decide +kernel
theorem dX12_undo_60 : decode cX12_undo 60 = .ok (.iload_n 1, 1) := by decide +kernel
theorem dX12_undo_61 : decode cX12_undo 61 = .ok (.aload_n 0, 1) := by decide +kernel
theorem dX12_undo_62 : decode cX12_undo 62 = .ok (.getfield 31, 3) := by decide +kernel
theorem dX12_undo_65 : decode cX12_undo 65 = .ok (.iload_n 2, 1) := by decide +kernel
theorem dX12_undo_66 : decode cX12_undo 66 = .ok (.iaload, 1) := by decide +kernel
theorem dX12_undo_67 : decode cX12_undo 67 = .ok (.iastore, 1) := by decide +kernel
theorem dX12_undo_68 : decode cX12_undo 68 = .ok (.aload_n 0, 1) := by decide +kernel
theorem dX12_undo_69 : decode cX12_undo 69 = .ok (.getfield 13, 3) := by decide +kernel
theorem dX12_undo_72 : decode cX12_undo 72 = .ok (.iload_n 1, 1) := by decide +kernel
theorem dX12_undo_73 : decode cX12_undo 73 = .ok (.aload_n 0, 1) := by decide +kernel
theorem dX12_undo_74 : decode cX12_undo 74 = .ok (.getfield 31, 3) := by decide +kernel
theorem dX12_undo_77 : decode cX12_undo 77 = .ok (.iload_n 2, 1) := by decide +kernel
theorem dX12_undo_78 : decode cX12_undo 78 = .ok (.iconst 1, 1) := by decide +kernel
theorem dX12_undo_79 : decode cX12_undo 79 = .ok (.iadd, 1) := by decide +kernel
theorem dX12_undo_80 : decode cX12_undo 80 = .ok (.iaload, 1) := by decide +kernel
theorem dX12_undo_81 : decode cX12_undo 81 = .ok (.iastore, 1) := by decide +kernel
theorem dX12_undo_82 : decode cX12_undo 82 = .ok (.aload_n 0, 1) := by decide +kernel
theorem dX12_undo_83 : decode cX12_undo 83 = .ok (.getfield 16, 3) := by decide +kernel
theorem dX12_undo_86 : decode cX12_undo 86 = .ok (.iload_n 1, 1) := by decide +kernel
theorem dX12_undo_87 : decode cX12_undo 87 = .ok (.aload_n 0, 1) := by decide +kernel
theorem dX12_undo_88 : decode cX12_undo 88 = .ok (.getfield 31, 3) := by decide +kernel
theorem dX12_undo_91 : decode cX12_undo 91 = .ok (.iload_n 2, 1) := by decide +kernel
theorem dX12_undo_92 : decode cX12_undo 92 = .ok (.iconst 2, 1) := by decide +kernel
theorem dX12_undo_93 : decode cX12_undo 93 = .ok (.iadd, 1) := by decide +kernel
theorem dX12_undo_94 : decode cX12_undo 94 = .ok (.iaload, 1) := by decide +kernel
theorem dX12_undo_95 : decode cX12_undo 95 = .ok (.iastore, 1) := by decide +kernel
theorem dX12_undo_96 : decode cX12_undo 96 = .ok (.aload_n 0, 1) := by decide +kernel
theorem dX12_undo_97 : decode cX12_undo 97 = .ok (.getfield 19, 3) := by decide +kernel
theorem dX12_undo_100 : decode cX12_undo 100 = .ok (.iload_n 1, 1) := by decide +kernel
theorem dX12_undo_101 : decode cX12_undo 101 = .ok (.aload_n 0, 1) := by decide +kernel
theorem dX12_undo_102 : decode cX12_undo 102 = .ok (.getfield 31, 3) := by decide +kernel
theorem dX12_undo_105 : decode cX12_undo 105 = .ok (.iload_n 2, 1) := by decide +kernel
theorem dX12_undo_106 : decode cX12_undo 106 = .ok (.iconst 3, 1) := by decide +kernel
theorem dX12_undo_107 : decode cX12_undo 107 = .ok (.iadd, 1) := by decide +kernel
theorem dX12_undo_108 : decode cX12_undo 108 = .ok (.iaload, 1) := by decide +kernel
theorem dX12_undo_109 : decode cX12_undo 109 = .ok (.iastore, 1) := by decide +kernel
theorem dX12_undo_110 : decode cX12_undo 110 = .ok (.iinc 1 1, 3) := by decide +kernel
theorem dX12_undo_113 : decode cX12_undo 113 = .ok (.goto (-75), 3) := by decide +kernel
theorem dX12_undo_116 : decode cX12_undo 116 = .ok (.aload_n 0, 1) := by decide +kernel
theorem dX12_undo_117 : decode cX12_undo 117 = .ok (.iconst 0, 1) := by decide +kernel
theorem dX12_undo_118 : decode cX12_undo 118 = .ok (.putfield 93, 3) := by decide +kernel
theorem dX12_undo_121 : decode cX12_undo 121 = .ok (.aload_n 0, 1) := by decide +kernel
theorem dX12_undo_122 : decode cX12_undo 122 = .ok (.iconst 1, 1) := by decide +kernel
theorem dX12_undo_123 : decode cX12_undo 123 = .ok (.invokevirtual 96, 3) := by decide +kernel
theorem dX12_undo_126 : decode cX12_undo 126 = .ok (.ireturn, 1) := by decide +kernel
theorem dX12_made_0 : decode cX12_made 0 = .ok (.aload_n 0, 1) := by decide +kernel
theorem dX12_made_1 : decode cX12_made 1 = .ok (.invokevirtual 99, 3) := by decide +kernel
theorem dX12_made_4 : decode cX12_made 4 = .ok (.aload_n 0, 1) := by decide +kernel
theorem dX12_made_5 : decode cX12_made 5 = .ok (.getfield 7, 3) := by decide +kernel
theorem dX12_made_8 : decode cX12_made 8 = .ok (.aload_n 0, 1) := by decide +kernel
theorem dX12_made_9 : decode cX12_made 9 = .ok (.getfield 75, 3) := by decide +kernel
theorem dX12_made_12 : decode cX12_made 12 = .ok (.iload_n 1, 1) := by decide +kernel
theorem dX12_made_13 : decode cX12_made 13 = .ok (.iastore, 1) := by decide +kernel
theorem dX12_made_14 : decode cX12_made 14 = .ok (.aload_n 0, 1) := by decide +kernel
theorem dX12_made_15 : decode cX12_made 15 = .ok (.getfield 13, 3) := by decide +kernel
theorem dX12_made_18 : decode cX12_made 18 = .ok (.aload_n 0, 1) := by decide +kernel
theorem dX12_made_19 : decode cX12_made 19 = .ok (.getfield 75, 3) := by decide +kernel
theorem dX12_made_22 : decode cX12_made 22 = .ok (.iload_n 2, 1) := by decide +kernel
theorem dX12_made_23 : decode cX12_made 23 = .ok (.iastore, 1) := by decide +kernel
theorem dX12_made_24 : decode cX12_made 24 = .ok (.aload_n 0, 1) := by decide +kernel
theorem dX12_made_25 : decode cX12_made 25 = .ok (.getfield 16, 3) := by decide +kernel
theorem dX12_made_28 : decode cX12_made 28 = .ok (.aload_n 0, 1) := by decide +kernel
theorem dX12_made_29 : decode cX12_made 29 = .ok (.getfield 75, 3) := by decide +kernel
theorem dX12_made_32 : decode cX12_made 32 = .ok (.iconst 0, 1) := by decide +kernel
theorem dX12_made_33 : decode cX12_made 33 = .ok (.iastore, 1) := by decide +kernel
theorem dX12_made_34 : decode cX12_made 34 = .ok (.aload_n 0, 1) := by decide +kernel
theorem dX12_made_35 : decode cX12_made 35 = .ok (.getfield 19, 3) := by decide +kernel
theorem dX12_made_38 : decode cX12_made 38 = .ok (.aload_n 0, 1) := by decide +kernel
theorem dX12_made_39 : decode cX12_made 39 = .ok (.getfield 75, 3) := by decide +kernel
theorem dX12_made_42 : decode cX12_made 42 = .ok (.iconst 0, 1) := by decide +kernel
theorem dX12_made_43 : decode cX12_made 43 = .ok (.iastore, 1) := by decide +kernel
theorem dX12_made_44 : decode cX12_made 44 = .ok (.aload_n 0, 1) := by decide +kernel
theorem dX12_made_45 : decode cX12_made 45 = .ok (.dup, 1) := by decide +kernel
theorem dX12_made_46 : decode cX12_made 46 = .ok (.getfield 75, 3) := by decide +kernel
theorem dX12_made_49 : decode cX12_made 49 = .ok (.iconst 1, 1) := by decide +kernel
theorem dX12_made_50 : decode cX12_made 50 = .ok (.iadd, 1) := by decide +kernel
theorem dX12_made_51 : decode cX12_made 51 = .ok (.putfield 75, 3) := by decide +kernel
theorem dX12_made_54 : decode cX12_made 54 = .ok (.aload_n 0, 1) := by decide +kernel
theorem dX12_made_55 : decode cX12_made 55 = .ok (.aload_n 0, 1) := by decide +kernel
theorem dX12_made_56 : decode cX12_made 56 = .ok (.getfield 75, 3) := by decide +kernel
theorem dX12_made_59 : decode cX12_made 59 = .ok (.iconst 1, 1) := by decide +kernel
theorem dX12_made_60 : decode cX12_made 60 = .ok (.isub, 1) := by decide +kernel
theorem dX12_made_61 : decode cX12_made 61 = .ok (.invokevirtual 96, 3) := by decide +kernel
theorem dX12_made_64 : decode cX12_made 64 = .ok (.ireturn, 1) := by decide +kernel
theorem dX12_job_0 : decode cX12_job 0 = .ok (.iload_n 1, 1) := by decide +kernel
theorem dX12_job_1 : decode cX12_job 1 = .ok (.iconst 1, 1) := by decide +kernel
theorem dX12_job_2 : decode cX12_job 2 = .ok (.bipush 100, 2) := by decide +kernel
theorem dX12_job_4 : decode cX12_job 4 = .ok (.invokestatic 78, 3) := by decide +kernel
theorem dX12_job_7 : decode cX12_job 7 = .ok (.ifCond .eq 13, 3) := by decide +kernel
theorem dX12_job_10 : decode cX12_job 10 = .ok (.iload_n 2, 1) := by decide +kernel
theorem dX12_job_11 : decode cX12_job 11 = .ok (.iconst 0, 1) := by decide +kernel
theorem dX12_job_12 : decode cX12_job 12 = .ok (.bipush 100, 2) := by decide +kernel
theorem dX12_job_14 : decode cX12_job 14 = .ok (.invokestatic 78, 3) := by decide +kernel
theorem dX12_job_17 : decode cX12_job 17 = .ok (.ifCond .ne 9, 3) := by decide +kernel
theorem dX12_job_20 : decode cX12_job 20 = .ok (.aload_n 0, 1) := by decide +kernel
theorem dX12_job_21 : decode cX12_job 21 = .ok (.iconst 1, 1) := by decide +kernel
theorem dX12_job_22 : decode cX12_job 22 = .ok (.invokevirtual 89, 3) := by decide +kernel
theorem dX12_job_25 : decode cX12_job 25 = .ok (.ireturn, 1) := by decide +kernel
theorem dX12_job_26 : decode cX12_job 26 = .ok (.aload_n 0, 1) := by decide +kernel
theorem dX12_job_27 : decode cX12_job 27 = .ok (.getfield 75, 3) := by decide +kernel
theorem dX12_job_30 : decode cX12_job 30 = .ok (.bipush 12, 2) := by decide +kernel
theorem dX12_job_32 : decode cX12_job 32 = .ok (.if_icmp .ne 11, 3) := by decide +kernel
theorem dX12_job_35 : decode cX12_job 35 = .ok (.aload_n 0, 1) := by decide +kernel
theorem dX12_job_36 : decode cX12_job 36 = .ok (.iconst 2, 1) := by decide +kernel
theorem dX12_job_37 : decode cX12_job 37 = .ok (.invokevirtual 89, 3) := by decide +kernel
theorem dX12_job_40 : decode cX12_job 40 = .ok (.goto 9, 3) := by decide +kernel
theorem dX12_job_43 : decode cX12_job 43 = .ok (.aload_n 0, 1) := by decide +kernel
theorem dX12_job_44 : decode cX12_job 44 = .ok (.iload_n 1, 1) := by decide +kernel
theorem dX12_job_45 : decode cX12_job 45 = .ok (.iload_n 2, 1) := by decide +kernel
theorem dX12_job_46 : decode cX12_job 46 = .ok (.invokevirtual 102, 3) := by decide +kernel
theorem dX12_job_49 : decode cX12_job 49 = .ok (.ireturn, 1) := by decide +kernel
theorem dX12_set_0 : decode cX12_set 0 = .ok (.iload_n 2, 1) := by decide +kernel
theorem dX12_set_1 : decode cX12_set 1 = .ok (.ifCond .ne 13, 3) := by decide +kernel
theorem dX12_set_4 : decode cX12_set 4 = .ok (.iload_n 3, 1) := by decide +kernel
theorem dX12_set_5 : decode cX12_set 5 = .ok (.iconst 1, 1) := by decide +kernel
theorem dX12_set_6 : decode cX12_set 6 = .ok (.bipush 100, 2) := by decide +kernel
theorem dX12_set_8 : decode cX12_set 8 = .ok (.invokestatic 78, 3) := by decide +kernel
theorem dX12_set_11 : decode cX12_set 11 = .ok (.goto 39, 3) := by decide +kernel
theorem dX12_set_14 : decode cX12_set 14 = .ok (.iload_n 2, 1) := by decide +kernel
theorem dX12_set_15 : decode cX12_set 15 = .ok (.iconst 1, 1) := by decide +kernel
theorem dX12_set_16 : decode cX12_set 16 = .ok (.if_icmp .ne 13, 3) := by decide +kernel
theorem dX12_set_19 : decode cX12_set 19 = .ok (.iload_n 3, 1) := by decide +kernel
theorem dX12_set_20 : decode cX12_set 20 = .ok (.iconst 0, 1) := by decide +kernel
theorem dX12_set_21 : decode cX12_set 21 = .ok (.bipush 100, 2) := by decide +kernel
theorem dX12_set_23 : decode cX12_set 23 = .ok (.invokestatic 78, 3) := by decide +kernel
theorem dX12_set_26 : decode cX12_set 26 = .ok (.goto 24, 3) := by decide +kernel
theorem dX12_set_29 : decode cX12_set 29 = .ok (.iload_n 2, 1) := by decide +kernel
theorem dX12_set_30 : decode cX12_set 30 = .ok (.iconst 2, 1) := by decide +kernel
theorem dX12_set_31 : decode cX12_set 31 = .ok (.if_icmp .ne 18, 3) := by decide +kernel
theorem dX12_set_34 : decode cX12_set 34 = .ok (.iload_n 3, 1) := by decide +kernel
theorem dX12_set_35 : decode cX12_set 35 = .ok (.iconst 0, 1) := by decide +kernel
theorem dX12_set_36 : decode cX12_set 36 = .ok (.sipush 500, 3) := by decide +kernel
theorem dX12_set_39 : decode cX12_set 39 = .ok (.invokestatic 78, 3) := by decide +kernel
theorem dX12_set_42 : decode cX12_set 42 = .ok (.ifCond .eq 7, 3) := by decide +kernel
theorem dX12_set_45 : decode cX12_set 45 = .ok (.iconst 1, 1) := by decide +kernel
theorem dX12_set_46 : decode cX12_set 46 = .ok (.goto 4, 3) := by decide +kernel
theorem dX12_set_49 : decode cX12_set 49 = .ok (.iconst 0, 1) := by decide +kernel
theorem dX12_set_50 : decode cX12_set 50 = .ok (.istore 4, 2) := by decide +kernel
theorem dX12_set_52 : decode cX12_set 52 = .ok (.aload_n 0, 1) := by decide +kernel
theorem dX12_set_53 : decode cX12_set 53 = .ok (.iload_n 1, 1) := by decide +kernel
theorem dX12_set_54 : decode cX12_set 54 = .ok (.invokevirtual 106, 3) := by decide +kernel
theorem dX12_set_57 : decode cX12_set 57 = .ok (.ifCond .eq 8, 3) := by decide +kernel
theorem dX12_set_60 : decode cX12_set 60 = .ok (.iload 4, 2) := by decide +kernel
theorem dX12_set_62 : decode cX12_set 62 = .ok (.ifCond .ne 9, 3) := by decide +kernel
theorem dX12_set_65 : decode cX12_set 65 = .ok (.aload_n 0, 1) := by decide +kernel
theorem dX12_set_66 : decode cX12_set 66 = .ok (.iconst 1, 1) := by decide +kernel
theorem dX12_set_67 : decode cX12_set 67 = .ok (.invokevirtual 89, 3) := by decide +kernel
theorem dX12_set_70 : decode cX12_set 70 = .ok (.ireturn, 1) := by decide +kernel
theorem dX12_set_71 : decode cX12_set 71 = .ok (.aload_n 0, 1) := by decide +kernel
theorem dX12_set_72 : decode cX12_set 72 = .ok (.invokevirtual 99, 3) := by decide +kernel
theorem dX12_set_75 : decode cX12_set 75 = .ok (.iload_n 2, 1) := by decide +kernel
theorem dX12_set_76 : decode cX12_set 76 = .ok (.ifCond .ne 12, 3) := by decide +kernel
theorem dX12_set_79 : decode cX12_set 79 = .ok (.aload_n 0, 1) := by decide +kernel
theorem dX12_set_80 : decode cX12_set 80 = .ok (.getfield 7, 3) := by decide +kernel
theorem dX12_set_83 : decode cX12_set 83 = .ok (.iload_n 1, 1) := by decide +kernel
theorem dX12_set_84 : decode cX12_set 84 = .ok (.iaload, 1) := by decide +kernel
theorem dX12_set_85 : decode cX12_set 85 = .ok (.goto 23, 3) := by decide +kernel
theorem dX12_set_88 : decode cX12_set 88 = .ok (.iload_n 2, 1) := by decide +kernel
theorem dX12_set_89 : decode cX12_set 89 = .ok (.iconst 1, 1) := by decide +kernel
theorem dX12_set_90 : decode cX12_set 90 = .ok (.if_icmp .ne 12, 3) := by decide +kernel
theorem dX12_set_93 : decode cX12_set 93 = .ok (.aload_n 0, 1) := by decide +kernel
theorem dX12_set_94 : decode cX12_set 94 = .ok (.getfield 13, 3) := by decide +kernel
theorem dX12_set_97 : decode cX12_set 97 = .ok (.iload_n 1, 1) := by decide +kernel
theorem dX12_set_98 : decode cX12_set 98 = .ok (.iaload, 1) := by decide +kernel
theorem dX12_set_99 : decode cX12_set 99 = .ok (.goto 9, 3) := by decide +kernel
theorem dX12_set_102 : decode cX12_set 102 = .ok (.aload_n 0, 1) := by decide +kernel
theorem dX12_set_103 : decode cX12_set 103 = .ok (.getfield 16, 3) := by decide +kernel
theorem dX12_set_106 : decode cX12_set 106 = .ok (.iload_n 1, 1) := by decide +kernel
theorem dX12_set_107 : decode cX12_set 107 = .ok (.iaload, 1) := by decide +kernel
theorem dX12_set_108 : decode cX12_set 108 = .ok (.istore 5, 2) := by decide +kernel
theorem dX12_set_110 : decode cX12_set 110 = .ok (.iload_n 2, 1) := by decide +kernel
theorem dX12_set_111 : decode cX12_set 111 = .ok (.ifCond .ne 13, 3) := by decide +kernel
theorem dX12_set_114 : decode cX12_set 114 = .ok (.aload_n 0, 1) := by decide +kernel
theorem dX12_set_115 : decode cX12_set 115 = .ok (.getfield 7, 3) := by decide +kernel
theorem dX12_set_118 : decode cX12_set 118 = .ok (.iload_n 1, 1) := by decide +kernel
theorem dX12_set_119 : decode cX12_set 119 = .ok (.iload_n 3, 1) := by decide +kernel
theorem dX12_set_120 : decode cX12_set 120 = .ok (.iastore, 1) := by decide +kernel
theorem dX12_set_121 : decode cX12_set 121 = .ok (.goto 25, 3) := by decide +kernel
theorem dX12_set_124 : decode cX12_set 124 = .ok (.iload_n 2, 1) := by decide +kernel
theorem dX12_set_125 : decode cX12_set 125 = .ok (.iconst 1, 1) := by decide +kernel
theorem dX12_set_126 : decode cX12_set 126 = .ok (.if_icmp .ne 13, 3) := by decide +kernel
theorem dX12_set_129 : decode cX12_set 129 = .ok (.aload_n 0, 1) := by decide +kernel
theorem dX12_set_130 : decode cX12_set 130 = .ok (.getfield 13, 3) := by decide +kernel
theorem dX12_set_133 : decode cX12_set 133 = .ok (.iload_n 1, 1) := by decide +kernel
theorem dX12_set_134 : decode cX12_set 134 = .ok (.iload_n 3, 1) := by decide +kernel
theorem dX12_set_135 : decode cX12_set 135 = .ok (.iastore, 1) := by decide +kernel
theorem dX12_set_136 : decode cX12_set 136 = .ok (.goto 10, 3) := by decide +kernel
theorem dX12_set_139 : decode cX12_set 139 = .ok (.aload_n 0, 1) := by decide +kernel
theorem dX12_set_140 : decode cX12_set 140 = .ok (.getfield 16, 3) := by decide +kernel
theorem dX12_set_143 : decode cX12_set 143 = .ok (.iload_n 1, 1) := by decide +kernel
theorem dX12_set_144 : decode cX12_set 144 = .ok (.iload_n 3, 1) := by decide +kernel
theorem dX12_set_145 : decode cX12_set 145 = .ok (.iastore, 1) := by decide +kernel
theorem dX12_set_146 : decode cX12_set 146 = .ok (.aload_n 0, 1) := by decide +kernel
theorem dX12_set_147 : decode cX12_set 147 = .ok (.iload 5, 2) := by decide +kernel
theorem dX12_set_149 : decode cX12_set 149 = .ok (.invokevirtual 96, 3) := by decide +kernel
theorem dX12_set_152 : decode cX12_set 152 = .ok (.ireturn, 1) := by decide +kernel
theorem dX12_lay_0 : decode cX12_lay 0 = .ok (.aload_n 0, 1) := by decide +kernel
theorem dX12_lay_1 : decode cX12_lay 1 = .ok (.iload_n 1, 1) := by decide +kernel
theorem dX12_lay_2 : decode cX12_lay 2 = .ok (.invokevirtual 106, 3) := by decide +kernel
theorem dX12_lay_5 : decode cX12_lay 5 = .ok (.ifCond .eq 11, 3) := by decide +kernel
theorem dX12_lay_8 : decode cX12_lay 8 = .ok (.aload_n 0, 1) := by decide +kernel
theorem dX12_lay_9 : decode cX12_lay 9 = .ok (.iload_n 2, 1) := by decide +kernel
theorem dX12_lay_10 : decode cX12_lay 10 = .ok (.invokevirtual 106, 3) := by decide +kernel
theorem dX12_lay_13 : decode cX12_lay 13 = .ok (.ifCond .ne 9, 3) := by decide +kernel
theorem dX12_lay_16 : decode cX12_lay 16 = .ok (.aload_n 0, 1) := by decide +kernel
theorem dX12_lay_17 : decode cX12_lay 17 = .ok (.iconst 1, 1) := by decide +kernel
theorem dX12_lay_18 : decode cX12_lay 18 = .ok (.invokevirtual 89, 3) := by decide +kernel
theorem dX12_lay_21 : decode cX12_lay 21 = .ok (.ireturn, 1) := by decide +kernel
theorem dX12_lay_22 : decode cX12_lay 22 = .ok (.aload_n 0, 1) := by decide +kernel
theorem dX12_lay_23 : decode cX12_lay 23 = .ok (.invokevirtual 110, 3) := by decide +kernel
theorem dX12_lay_26 : decode cX12_lay 26 = .ok (.iload_n 1, 1) := by decide +kernel
theorem dX12_lay_27 : decode cX12_lay 27 = .ok (.iload_n 2, 1) := by decide +kernel
theorem dX12_lay_28 : decode cX12_lay 28 = .ok (.if_icmp .eq 29, 3) := by decide +kernel
theorem dX12_lay_31 : decode cX12_lay 31 = .ok (.aload_n 0, 1) := by decide +kernel
theorem dX12_lay_32 : decode cX12_lay 32 = .ok (.getfield 19, 3) := by decide +kernel
theorem dX12_lay_35 : decode cX12_lay 35 = .ok (.iload_n 2, 1) := by decide +kernel
theorem dX12_lay_36 : decode cX12_lay 36 = .ok (.iaload, 1) := by decide +kernel
theorem dX12_lay_37 : decode cX12_lay 37 = .ok (.iload_n 1, 1) := by decide +kernel
theorem dX12_lay_38 : decode cX12_lay 38 = .ok (.invokestatic 82, 3) := by decide +kernel
theorem dX12_lay_41 : decode cX12_lay 41 = .ok (.ifCond .ne 16, 3) := by decide +kernel
theorem dX12_lay_44 : decode cX12_lay 44 = .ok (.aload_n 0, 1) := by decide +kernel
theorem dX12_lay_45 : decode cX12_lay 45 = .ok (.getfield 22, 3) := by decide +kernel
theorem dX12_lay_48 : decode cX12_lay 48 = .ok (.iload_n 1, 1) := by decide +kernel
theorem dX12_lay_49 : decode cX12_lay 49 = .ok (.iaload, 1) := by decide +kernel
theorem dX12_lay_50 : decode cX12_lay 50 = .ok (.iload_n 2, 1) := by decide +kernel
theorem dX12_lay_51 : decode cX12_lay 51 = .ok (.invokestatic 82, 3) := by decide +kernel
theorem dX12_lay_54 : decode cX12_lay 54 = .ok (.ifCond .eq 9, 3) := by decide +kernel
theorem dX12_lay_57 : decode cX12_lay 57 = .ok (.aload_n 0, 1) := by decide +kernel
theorem dX12_lay_58 : decode cX12_lay 58 = .ok (.iconst 3, 1) := by decide +kernel
theorem dX12_lay_59 : decode cX12_lay 59 = .ok (.invokevirtual 89, 3) := by decide +kernel
theorem dX12_lay_62 : decode cX12_lay 62 = .ok (.ireturn, 1) := by decide +kernel
theorem dX12_lay_63 : decode cX12_lay 63 = .ok (.aload_n 0, 1) := by decide +kernel
theorem dX12_lay_64 : decode cX12_lay 64 = .ok (.invokevirtual 99, 3) := by decide +kernel
theorem dX12_lay_67 : decode cX12_lay 67 = .ok (.aload_n 0, 1) := by decide +kernel
theorem dX12_lay_68 : decode cX12_lay 68 = .ok (.getfield 19, 3) := by decide +kernel
theorem dX12_lay_71 : decode cX12_lay 71 = .ok (.iload_n 2, 1) := by decide +kernel
theorem dX12_lay_72 : decode cX12_lay 72 = .ok (.dup2, 1) := by decide +kernel
theorem dX12_lay_73 : decode cX12_lay 73 = .ok (.iaload, 1) := by decide +kernel
theorem dX12_lay_74 : decode cX12_lay 74 = .ok (.iconst 1, 1) := by decide +kernel
theorem dX12_lay_75 : decode cX12_lay 75 = .ok (.iload_n 1, 1) := by decide +kernel
theorem dX12_lay_76 : decode cX12_lay 76 = .ok (.ishl, 1) := by decide +kernel
theorem dX12_lay_77 : decode cX12_lay 77 = .ok (.ior, 1) := by decide +kernel
theorem dX12_lay_78 : decode cX12_lay 78 = .ok (.iastore, 1) := by decide +kernel
theorem dX12_lay_79 : decode cX12_lay 79 = .ok (.aload_n 0, 1) := by decide +kernel
theorem dX12_lay_80 : decode cX12_lay 80 = .ok (.iconst 1, 1) := by decide +kernel
theorem dX12_lay_81 : decode cX12_lay 81 = .ok (.invokevirtual 96, 3) := by decide +kernel
theorem dX12_lay_84 : decode cX12_lay 84 = .ok (.ireturn, 1) := by decide +kernel
theorem dX12_free_0 : decode cX12_free 0 = .ok (.aload_n 0, 1) := by decide +kernel
theorem dX12_free_1 : decode cX12_free 1 = .ok (.iload_n 1, 1) := by decide +kernel
theorem dX12_free_2 : decode cX12_free 2 = .ok (.invokevirtual 106, 3) := by decide +kernel
theorem dX12_free_5 : decode cX12_free 5 = .ok (.ifCond .eq 11, 3) := by decide +kernel
theorem dX12_free_8 : decode cX12_free 8 = .ok (.aload_n 0, 1) := by decide +kernel
theorem dX12_free_9 : decode cX12_free 9 = .ok (.iload_n 2, 1) := by decide +kernel
theorem dX12_free_10 : decode cX12_free 10 = .ok (.invokevirtual 106, 3) := by decide +kernel
theorem dX12_free_13 : decode cX12_free 13 = .ok (.ifCond .ne 9, 3) := by decide +kernel
theorem dX12_free_16 : decode cX12_free 16 = .ok (.aload_n 0, 1) := by decide +kernel
theorem dX12_free_17 : decode cX12_free 17 = .ok (.iconst 1, 1) := by decide +kernel
theorem dX12_free_18 : decode cX12_free 18 = .ok (.invokevirtual 89, 3) := by decide +kernel
theorem dX12_free_21 : decode cX12_free 21 = .ok (.ireturn, 1) := by decide +kernel
theorem dX12_free_22 : decode cX12_free 22 = .ok (.aload_n 0, 1) := by decide +kernel
theorem dX12_free_23 : decode cX12_free 23 = .ok (.getfield 19, 3) := by decide +kernel
theorem dX12_free_26 : decode cX12_free 26 = .ok (.iload_n 2, 1) := by decide +kernel
theorem dX12_free_27 : decode cX12_free 27 = .ok (.iaload, 1) := by decide +kernel
theorem dX12_free_28 : decode cX12_free 28 = .ok (.iload_n 1, 1) := by decide +kernel
theorem dX12_free_29 : decode cX12_free 29 = .ok (.invokestatic 82, 3) := by decide +kernel
theorem dX12_free_32 : decode cX12_free 32 = .ok (.ifCond .ne 9, 3) := by decide +kernel
theorem dX12_free_35 : decode cX12_free 35 = .ok (.aload_n 0, 1) := by decide +kernel
theorem dX12_free_36 : decode cX12_free 36 = .ok (.iconst 3, 1) := by decide +kernel
theorem dX12_free_37 : decode cX12_free 37 = .ok (.invokevirtual 89, 3) := by decide +kernel
theorem dX12_free_40 : decode cX12_free 40 = .ok (.ireturn, 1) := by decide +kernel
theorem dX12_free_41 : decode cX12_free 41 = .ok (.aload_n 0, 1) := by decide +kernel
theorem dX12_free_42 : decode cX12_free 42 = .ok (.invokevirtual 99, 3) := by decide +kernel
theorem dX12_free_45 : decode cX12_free 45 = .ok (.aload_n 0, 1) := by decide +kernel
theorem dX12_free_46 : decode cX12_free 46 = .ok (.getfield 19, 3) := by decide +kernel
theorem dX12_free_49 : decode cX12_free 49 = .ok (.iload_n 2, 1) := by decide +kernel
theorem dX12_free_50 : decode cX12_free 50 = .ok (.dup2, 1) := by decide +kernel
theorem dX12_free_51 : decode cX12_free 51 = .ok (.iaload, 1) := by decide +kernel
theorem dX12_free_52 : decode cX12_free 52 = .ok (.iconst 1, 1) := by decide +kernel
theorem dX12_free_53 : decode cX12_free 53 = .ok (.iload_n 1, 1) := by decide +kernel
theorem dX12_free_54 : decode cX12_free 54 = .ok (.ishl, 1) := by decide +kernel
theorem dX12_free_55 : decode cX12_free 55 = .ok (.iconst (-1), 1) := by decide +kernel
theorem dX12_free_56 : decode cX12_free 56 = .ok (.ixor, 1) := by decide +kernel
theorem dX12_free_57 : decode cX12_free 57 = .ok (.iand, 1) := by decide +kernel
theorem dX12_free_58 : decode cX12_free 58 = .ok (.iastore, 1) := by decide +kernel
theorem dX12_free_59 : decode cX12_free 59 = .ok (.aload_n 0, 1) := by decide +kernel
theorem dX12_free_60 : decode cX12_free 60 = .ok (.iconst 1, 1) := by decide +kernel
theorem dX12_free_61 : decode cX12_free 61 = .ok (.invokevirtual 96, 3) := by decide +kernel
theorem dX12_free_64 : decode cX12_free 64 = .ok (.ireturn, 1) := by decide +kernel
theorem dX12_placeOf_0 : decode cX12_placeOf 0 = .ok (.iconst 0, 1) := by decide +kernel
theorem dX12_placeOf_1 : decode cX12_placeOf 1 = .ok (.istore_n 2, 1) := by decide +kernel
theorem dX12_placeOf_2 : decode cX12_placeOf 2 = .ok (.iload_n 2, 1) := by decide +kernel
theorem dX12_placeOf_3 : decode cX12_placeOf 3 = .ok (.aload_n 0, 1) := by decide +kernel
theorem dX12_placeOf_4 : decode cX12_placeOf 4 = .ok (.getfield 93, 3) := by decide +kernel
theorem dX12_placeOf_7 : decode cX12_placeOf 7 = .ok (.if_icmp .ge 21, 3) := by decide +kernel
theorem dX12_placeOf_10 : decode cX12_placeOf 10 = .ok (.aload_n 0, 1) := by decide +kernel
theorem dX12_placeOf_11 : decode cX12_placeOf 11 = .ok (.getfield 25, 3) := by decide +kernel
theorem dX12_placeOf_14 : decode cX12_placeOf 14 = .ok (.iload_n 2, 1) := by decide +kernel
theorem dX12_placeOf_15 : decode cX12_placeOf 15 = .ok (.iaload, 1) := by decide +kernel
theorem dX12_placeOf_16 : decode cX12_placeOf 16 = .ok (.iload_n 1, 1) := by decide +kernel
theorem dX12_placeOf_17 : decode cX12_placeOf 17 = .ok (.if_icmp .ne 5, 3) := by decide +kernel
theorem dX12_placeOf_20 : decode cX12_placeOf 20 = .ok (.iload_n 2, 1) := by decide +kernel
theorem dX12_placeOf_21 : decode cX12_placeOf 21 = .ok (.ireturn, 1) := by decide +kernel
theorem dX12_placeOf_22 : decode cX12_placeOf 22 = .ok (.iinc 2 1, 3) := by decide +kernel
theorem dX12_placeOf_25 : decode cX12_placeOf 25 = .ok (.goto (-23), 3) := by decide +kernel
theorem dX12_placeOf_28 : decode cX12_placeOf 28 = .ok (.iconst (-1), 1) := by decide +kernel
theorem dX12_placeOf_29 : decode cX12_placeOf 29 = .ok (.ireturn, 1) := by decide +kernel
theorem dX12_put_0 : decode cX12_put 0 = .ok (.aload_n 0, 1) := by decide +kernel
theorem dX12_put_1 : decode cX12_put 1 = .ok (.iload_n 1, 1) := by decide +kernel
theorem dX12_put_2 : decode cX12_put 2 = .ok (.invokevirtual 106, 3) := by decide +kernel
theorem dX12_put_5 : decode cX12_put 5 = .ok (.ifCond .ne 9, 3) := by decide +kernel
theorem dX12_put_8 : decode cX12_put 8 = .ok (.aload_n 0, 1) := by decide +kernel
theorem dX12_put_9 : decode cX12_put 9 = .ok (.iconst 1, 1) := by decide +kernel
theorem dX12_put_10 : decode cX12_put 10 = .ok (.invokevirtual 89, 3) := by decide +kernel
theorem dX12_put_13 : decode cX12_put 13 = .ok (.ireturn, 1) := by decide +kernel
theorem dX12_put_14 : decode cX12_put 14 = .ok (.aload_n 0, 1) := by decide +kernel
theorem dX12_put_15 : decode cX12_put 15 = .ok (.iload_n 1, 1) := by decide +kernel
theorem dX12_put_16 : decode cX12_put 16 = .ok (.invokevirtual 113, 3) := by decide +kernel
theorem dX12_put_19 : decode cX12_put 19 = .ok (.iconst (-1), 1) := by decide +kernel
theorem dX12_put_20 : decode cX12_put 20 = .ok (.if_icmp .eq 9, 3) := by decide +kernel
theorem dX12_put_23 : decode cX12_put 23 = .ok (.aload_n 0, 1) := by decide +kernel
theorem dX12_put_24 : decode cX12_put 24 = .ok (.iconst 3, 1) := by decide +kernel
theorem dX12_put_25 : decode cX12_put 25 = .ok (.invokevirtual 89, 3) := by decide +kernel
theorem dX12_put_28 : decode cX12_put 28 = .ok (.ireturn, 1) := by decide +kernel
theorem dX12_put_29 : decode cX12_put 29 = .ok (.aload_n 0, 1) := by decide +kernel
theorem dX12_put_30 : decode cX12_put 30 = .ok (.getfield 25, 3) := by decide +kernel
theorem dX12_put_33 : decode cX12_put 33 = .ok (.aload_n 0, 1) := by decide +kernel
theorem dX12_put_34 : decode cX12_put 34 = .ok (.getfield 93, 3) := by decide +kernel
theorem dX12_put_37 : decode cX12_put 37 = .ok (.iload_n 1, 1) := by decide +kernel
theorem dX12_put_38 : decode cX12_put 38 = .ok (.iastore, 1) := by decide +kernel
theorem dX12_put_39 : decode cX12_put 39 = .ok (.aload_n 0, 1) := by decide +kernel
theorem dX12_put_40 : decode cX12_put 40 = .ok (.dup, 1) := by decide +kernel
theorem dX12_put_41 : decode cX12_put 41 = .ok (.getfield 93, 3) := by decide +kernel
theorem dX12_put_44 : decode cX12_put 44 = .ok (.iconst 1, 1) := by decide +kernel
theorem dX12_put_45 : decode cX12_put 45 = .ok (.iadd, 1) := by decide +kernel
theorem dX12_put_46 : decode cX12_put 46 = .ok (.putfield 93, 3) := by decide +kernel
theorem dX12_put_49 : decode cX12_put 49 = .ok (.aload_n 0, 1) := by decide +kernel
theorem dX12_put_50 : decode cX12_put 50 = .ok (.aload_n 0, 1) := by decide +kernel
theorem dX12_put_51 : decode cX12_put 51 = .ok (.getfield 93, 3) := by decide +kernel
theorem dX12_put_54 : decode cX12_put 54 = .ok (.invokevirtual 96, 3) := by decide +kernel
theorem dX12_put_57 : decode cX12_put 57 = .ok (.ireturn, 1) := by decide +kernel
theorem dX12_clear_0 : decode cX12_clear 0 = .ok (.aload_n 0, 1) := by decide +kernel
theorem dX12_clear_1 : decode cX12_clear 1 = .ok (.getfield 93, 3) := by decide +kernel
theorem dX12_clear_4 : decode cX12_clear 4 = .ok (.istore_n 1, 1) := by decide +kernel
theorem dX12_clear_5 : decode cX12_clear 5 = .ok (.aload_n 0, 1) := by decide +kernel
theorem dX12_clear_6 : decode cX12_clear 6 = .ok (.iconst 0, 1) := by decide +kernel
theorem dX12_clear_7 : decode cX12_clear 7 = .ok (.putfield 93, 3) := by decide +kernel
theorem dX12_clear_10 : decode cX12_clear 10 = .ok (.aload_n 0, 1) := by decide +kernel
theorem dX12_clear_11 : decode cX12_clear 11 = .ok (.iload_n 1, 1) := by decide +kernel
theorem dX12_clear_12 : decode cX12_clear 12 = .ok (.invokevirtual 96, 3) := by decide +kernel
theorem dX12_clear_15 : decode cX12_clear 15 = .ok (.ireturn, 1) := by decide +kernel
theorem dX12_lacking_0 : decode cX12_lacking 0 = .ok (.aload_n 0, 1) := by decide +kernel
theorem dX12_lacking_1 : decode cX12_lacking 1 = .ok (.invokevirtual 110, 3) := by decide +kernel
theorem dX12_lacking_4 : decode cX12_lacking 4 = .ok (.iconst 0, 1) := by decide +kernel
theorem dX12_lacking_5 : decode cX12_lacking 5 = .ok (.istore_n 1, 1) := by decide +kernel
theorem dX12_lacking_6 : decode cX12_lacking 6 = .ok (.iconst 0, 1) := by decide +kernel
theorem dX12_lacking_7 : decode cX12_lacking 7 = .ok (.istore_n 2, 1) := by decide +kernel
theorem dX12_lacking_8 : decode cX12_lacking 8 = .ok (.iload_n 2, 1) := by decide +kernel
theorem dX12_lacking_9 : decode cX12_lacking 9 = .ok (.aload_n 0, 1) := by decide +kernel
theorem dX12_lacking_10 : decode cX12_lacking 10 = .ok (.getfield 93, 3) := by decide +kernel
theorem dX12_lacking_13 : decode cX12_lacking 13 = .ok (.if_icmp .ge 47, 3) := by decide +kernel
theorem dX12_lacking_16 : decode cX12_lacking 16 = .ok (.aload_n 0, 1) := by decide +kernel
theorem dX12_lacking_17 : decode cX12_lacking 17 = .ok (.getfield 22, 3) := by decide +kernel
theorem dX12_lacking_20 : decode cX12_lacking 20 = .ok (.aload_n 0, 1) := by decide +kernel
theorem dX12_lacking_21 : decode cX12_lacking 21 = .ok (.getfield 25, 3) := by decide +kernel
theorem dX12_lacking_24 : decode cX12_lacking 24 = .ok (.iload_n 2, 1) := by decide +kernel
theorem dX12_lacking_25 : decode cX12_lacking 25 = .ok (.iaload, 1) := by decide +kernel
theorem dX12_lacking_26 : decode cX12_lacking 26 = .ok (.iaload, 1) := by decide +kernel
theorem dX12_lacking_27 : decode cX12_lacking 27 = .ok (.iload_n 1, 1) := by decide +kernel
theorem dX12_lacking_28 : decode cX12_lacking 28 = .ok (.iconst (-1), 1) := by decide +kernel
theorem dX12_lacking_29 : decode cX12_lacking 29 = .ok (.ixor, 1) := by decide +kernel
theorem dX12_lacking_30 : decode cX12_lacking 30 = .ok (.iand, 1) := by decide +kernel
theorem dX12_lacking_31 : decode cX12_lacking 31 = .ok (.istore_n 3, 1) := by decide +kernel
theorem dX12_lacking_32 : decode cX12_lacking 32 = .ok (.iload_n 3, 1) := by decide +kernel
theorem dX12_lacking_33 : decode cX12_lacking 33 = .ok (.ifCond .eq 10, 3) := by decide +kernel
theorem dX12_lacking_36 : decode cX12_lacking 36 = .ok (.aload_n 0, 1) := by decide +kernel
theorem dX12_lacking_37 : decode cX12_lacking 37 = .ok (.iload_n 3, 1) := by decide +kernel
theorem dX12_lacking_38 : decode cX12_lacking 38 = .ok (.putfield 116, 3) := by decide +kernel
theorem dX12_lacking_41 : decode cX12_lacking 41 = .ok (.iload_n 2, 1) := by decide +kernel
theorem dX12_lacking_42 : decode cX12_lacking 42 = .ok (.ireturn, 1) := by decide +kernel
theorem dX12_lacking_43 : decode cX12_lacking 43 = .ok (.iload_n 1, 1) := by decide +kernel
theorem dX12_lacking_44 : decode cX12_lacking 44 = .ok (.iconst 1, 1) := by decide +kernel
theorem dX12_lacking_45 : decode cX12_lacking 45 = .ok (.aload_n 0, 1) := by decide +kernel
theorem dX12_lacking_46 : decode cX12_lacking 46 = .ok (.getfield 25, 3) := by decide +kernel
theorem dX12_lacking_49 : decode cX12_lacking 49 = .ok (.iload_n 2, 1) := by decide +kernel
theorem dX12_lacking_50 : decode cX12_lacking 50 = .ok (.iaload, 1) := by decide +kernel
theorem dX12_lacking_51 : decode cX12_lacking 51 = .ok (.ishl, 1) := by decide +kernel
theorem dX12_lacking_52 : decode cX12_lacking 52 = .ok (.ior, 1) := by decide +kernel
theorem dX12_lacking_53 : decode cX12_lacking 53 = .ok (.istore_n 1, 1) := by decide +kernel
theorem dX12_lacking_54 : decode cX12_lacking 54 = .ok (.iinc 2 1, 3) := by decide +kernel
theorem dX12_lacking_57 : decode cX12_lacking 57 = .ok (.goto (-49), 3) := by decide +kernel
theorem dX12_lacking_60 : decode cX12_lacking 60 = .ok (.aload_n 0, 1) := by decide +kernel
theorem dX12_lacking_61 : decode cX12_lacking 61 = .ok (.iconst 1, 1) := by decide +kernel
theorem dX12_lacking_62 : decode cX12_lacking 62 = .ok (.aload_n 0, 1) := by decide +kernel
theorem dX12_lacking_63 : decode cX12_lacking 63 = .ok (.getfield 75, 3) := by decide +kernel
theorem dX12_lacking_66 : decode cX12_lacking 66 = .ok (.ishl, 1) := by decide +kernel
theorem dX12_lacking_67 : decode cX12_lacking 67 = .ok (.iconst 1, 1) := by decide +kernel
theorem dX12_lacking_68 : decode cX12_lacking 68 = .ok (.isub, 1) := by decide +kernel
theorem dX12_lacking_69 : decode cX12_lacking 69 = .ok (.iload_n 1, 1) := by decide +kernel
theorem dX12_lacking_70 : decode cX12_lacking 70 = .ok (.iconst (-1), 1) := by decide +kernel
theorem dX12_lacking_71 : decode cX12_lacking 71 = .ok (.ixor, 1) := by decide +kernel
theorem dX12_lacking_72 : decode cX12_lacking 72 = .ok (.iand, 1) := by decide +kernel
theorem dX12_lacking_73 : decode cX12_lacking 73 = .ok (.putfield 116, 3) := by decide +kernel
theorem dX12_lacking_76 : decode cX12_lacking 76 = .ok (.iconst (-1), 1) := by decide +kernel
theorem dX12_lacking_77 : decode cX12_lacking 77 = .ok (.ireturn, 1) := by decide +kernel
theorem dX12_lowest_0 : decode cX12_lowest 0 = .ok (.iconst 0, 1) := by decide +kernel
theorem dX12_lowest_1 : decode cX12_lowest 1 = .ok (.istore_n 1, 1) := by decide +kernel
theorem dX12_lowest_2 : decode cX12_lowest 2 = .ok (.iload_n 0, 1) := by decide +kernel
theorem dX12_lowest_3 : decode cX12_lowest 3 = .ok (.iload_n 1, 1) := by decide +kernel
theorem dX12_lowest_4 : decode cX12_lowest 4 = .ok (.invokestatic 82, 3) := by decide +kernel
theorem dX12_lowest_7 : decode cX12_lowest 7 = .ok (.ifCond .ne 9, 3) := by decide +kernel
theorem dX12_lowest_10 : decode cX12_lowest 10 = .ok (.iinc 1 1, 3) := by decide +kernel
theorem dX12_lowest_13 : decode cX12_lowest 13 = .ok (.goto (-11), 3) := by decide +kernel
theorem dX12_lowest_16 : decode cX12_lowest 16 = .ok (.iload_n 1, 1) := by decide +kernel
theorem dX12_lowest_17 : decode cX12_lowest 17 = .ok (.ireturn, 1) := by decide +kernel
theorem dX12_keeps_0 : decode cX12_keeps 0 = .ok (.aload_n 0, 1) := by decide +kernel
theorem dX12_keeps_1 : decode cX12_keeps 1 = .ok (.invokevirtual 119, 3) := by decide +kernel
theorem dX12_keeps_4 : decode cX12_keeps 4 = .ok (.iconst (-1), 1) := by decide +kernel
theorem dX12_keeps_5 : decode cX12_keeps 5 = .ok (.if_icmp .ne 14, 3) := by decide +kernel
theorem dX12_keeps_8 : decode cX12_keeps 8 = .ok (.aload_n 0, 1) := by decide +kernel
theorem dX12_keeps_9 : decode cX12_keeps 9 = .ok (.getfield 116, 3) := by decide +kernel
theorem dX12_keeps_12 : decode cX12_keeps 12 = .ok (.ifCond .ne 7, 3) := by decide +kernel
theorem dX12_keeps_15 : decode cX12_keeps 15 = .ok (.iconst 1, 1) := by decide +kernel
theorem dX12_keeps_16 : decode cX12_keeps 16 = .ok (.goto 4, 3) := by decide +kernel
theorem dX12_keeps_19 : decode cX12_keeps 19 = .ok (.iconst 0, 1) := by decide +kernel
theorem dX12_keeps_20 : decode cX12_keeps 20 = .ok (.ireturn, 1) := by decide +kernel
theorem dX12_why_0 : decode cX12_why 0 = .ok (.aload_n 0, 1) := by decide +kernel
theorem dX12_why_1 : decode cX12_why 1 = .ok (.invokevirtual 119, 3) := by decide +kernel
theorem dX12_why_4 : decode cX12_why 4 = .ok (.istore_n 2, 1) := by decide +kernel
theorem dX12_why_5 : decode cX12_why 5 = .ok (.iload_n 1, 1) := by decide +kernel
theorem dX12_why_6 : decode cX12_why 6 = .ok (.iconst 0, 1) := by decide +kernel
theorem dX12_why_7 : decode cX12_why 7 = .ok (.iconst 1, 1) := by decide +kernel
theorem dX12_why_8 : decode cX12_why 8 = .ok (.invokestatic 78, 3) := by decide +kernel
theorem dX12_why_11 : decode cX12_why 11 = .ok (.ifCond .eq 15, 3) := by decide +kernel
theorem dX12_why_14 : decode cX12_why 14 = .ok (.iload_n 2, 1) := by decide +kernel
theorem dX12_why_15 : decode cX12_why 15 = .ok (.iconst (-1), 1) := by decide +kernel
theorem dX12_why_16 : decode cX12_why 16 = .ok (.if_icmp .ne 12, 3) := by decide +kernel
theorem dX12_why_19 : decode cX12_why 19 = .ok (.aload_n 0, 1) := by decide +kernel
theorem dX12_why_20 : decode cX12_why 20 = .ok (.getfield 116, 3) := by decide +kernel
theorem dX12_why_23 : decode cX12_why 23 = .ok (.ifCond .ne 5, 3) := by decide +kernel
theorem dX12_why_26 : decode cX12_why 26 = .ok (.iconst (-1), 1) := by decide +kernel
theorem dX12_why_27 : decode cX12_why 27 = .ok (.ireturn, 1) := by decide +kernel
theorem dX12_why_28 : decode cX12_why 28 = .ok (.iload_n 1, 1) := by decide +kernel
theorem dX12_why_29 : decode cX12_why 29 = .ok (.iconst 1, 1) := by decide +kernel
theorem dX12_why_30 : decode cX12_why 30 = .ok (.if_icmp .ne 13, 3) := by decide +kernel
theorem dX12_why_33 : decode cX12_why 33 = .ok (.aload_n 0, 1) := by decide +kernel
theorem dX12_why_34 : decode cX12_why 34 = .ok (.getfield 116, 3) := by decide +kernel
theorem dX12_why_37 : decode cX12_why 37 = .ok (.invokestatic 123, 3) := by decide +kernel
theorem dX12_why_40 : decode cX12_why 40 = .ok (.goto 19, 3) := by decide +kernel
theorem dX12_why_43 : decode cX12_why 43 = .ok (.iload_n 2, 1) := by decide +kernel
theorem dX12_why_44 : decode cX12_why 44 = .ok (.iconst (-1), 1) := by decide +kernel
theorem dX12_why_45 : decode cX12_why 45 = .ok (.if_icmp .ne 8, 3) := by decide +kernel
theorem dX12_why_48 : decode cX12_why 48 = .ok (.bipush (-2), 2) := by decide +kernel
theorem dX12_why_50 : decode cX12_why 50 = .ok (.goto 9, 3) := by decide +kernel
theorem dX12_why_53 : decode cX12_why 53 = .ok (.aload_n 0, 1) := by decide +kernel
theorem dX12_why_54 : decode cX12_why 54 = .ok (.getfield 25, 3) := by decide +kernel
theorem dX12_why_57 : decode cX12_why 57 = .ok (.iload_n 2, 1) := by decide +kernel
theorem dX12_why_58 : decode cX12_why 58 = .ok (.iaload, 1) := by decide +kernel
theorem dX12_why_59 : decode cX12_why 59 = .ok (.ireturn, 1) := by decide +kernel
theorem dX12_cost_0 : decode cX12_cost 0 = .ok (.iconst 0, 1) := by decide +kernel
theorem dX12_cost_1 : decode cX12_cost 1 = .ok (.istore_n 1, 1) := by decide +kernel
theorem dX12_cost_2 : decode cX12_cost 2 = .ok (.iconst 0, 1) := by decide +kernel
theorem dX12_cost_3 : decode cX12_cost 3 = .ok (.istore_n 2, 1) := by decide +kernel
theorem dX12_cost_4 : decode cX12_cost 4 = .ok (.iconst 0, 1) := by decide +kernel
theorem dX12_cost_5 : decode cX12_cost 5 = .ok (.istore_n 3, 1) := by decide +kernel
theorem dX12_cost_6 : decode cX12_cost 6 = .ok (.iload_n 3, 1) := by decide +kernel
theorem dX12_cost_7 : decode cX12_cost 7 = .ok (.aload_n 0, 1) := by decide +kernel
theorem dX12_cost_8 : decode cX12_cost 8 = .ok (.getfield 93, 3) := by decide +kernel
theorem dX12_cost_11 : decode cX12_cost 11 = .ok (.if_icmp .ge 60, 3) := by decide +kernel
theorem dX12_cost_14 : decode cX12_cost 14 = .ok (.aload_n 0, 1) := by decide +kernel
theorem dX12_cost_15 : decode cX12_cost 15 = .ok (.getfield 25, 3) := by decide +kernel
theorem dX12_cost_18 : decode cX12_cost 18 = .ok (.iload_n 3, 1) := by decide +kernel
theorem dX12_cost_19 : decode cX12_cost 19 = .ok (.iaload, 1) := by decide +kernel
theorem dX12_cost_20 : decode cX12_cost 20 = .ok (.istore 4, 2) := by decide +kernel
theorem dX12_cost_22 : decode cX12_cost 22 = .ok (.iload_n 1, 1) := by decide +kernel
theorem dX12_cost_23 : decode cX12_cost 23 = .ok (.aload_n 0, 1) := by decide +kernel
theorem dX12_cost_24 : decode cX12_cost 24 = .ok (.getfield 16, 3) := by decide +kernel
theorem dX12_cost_27 : decode cX12_cost 27 = .ok (.iload 4, 2) := by decide +kernel
theorem dX12_cost_29 : decode cX12_cost 29 = .ok (.iaload, 1) := by decide +kernel
theorem dX12_cost_30 : decode cX12_cost 30 = .ok (.if_icmp .le 7, 3) := by decide +kernel
theorem dX12_cost_33 : decode cX12_cost 33 = .ok (.iload_n 1, 1) := by decide +kernel
theorem dX12_cost_34 : decode cX12_cost 34 = .ok (.goto 10, 3) := by decide +kernel
theorem dX12_cost_37 : decode cX12_cost 37 = .ok (.aload_n 0, 1) := by decide +kernel
theorem dX12_cost_38 : decode cX12_cost 38 = .ok (.getfield 16, 3) := by decide +kernel
theorem dX12_cost_41 : decode cX12_cost 41 = .ok (.iload 4, 2) := by decide +kernel
theorem dX12_cost_43 : decode cX12_cost 43 = .ok (.iaload, 1) := by decide +kernel
theorem dX12_cost_44 : decode cX12_cost 44 = .ok (.aload_n 0, 1) := by decide +kernel
theorem dX12_cost_45 : decode cX12_cost 45 = .ok (.getfield 7, 3) := by decide +kernel
theorem dX12_cost_48 : decode cX12_cost 48 = .ok (.iload 4, 2) := by decide +kernel
theorem dX12_cost_50 : decode cX12_cost 50 = .ok (.iaload, 1) := by decide +kernel
theorem dX12_cost_51 : decode cX12_cost 51 = .ok (.iadd, 1) := by decide +kernel
theorem dX12_cost_52 : decode cX12_cost 52 = .ok (.istore_n 1, 1) := by decide +kernel
theorem dX12_cost_53 : decode cX12_cost 53 = .ok (.iload_n 2, 1) := by decide +kernel
theorem dX12_cost_54 : decode cX12_cost 54 = .ok (.aload_n 0, 1) := by decide +kernel
theorem dX12_cost_55 : decode cX12_cost 55 = .ok (.getfield 13, 3) := by decide +kernel
theorem dX12_cost_58 : decode cX12_cost 58 = .ok (.iload 4, 2) := by decide +kernel
theorem dX12_cost_60 : decode cX12_cost 60 = .ok (.iaload, 1) := by decide +kernel
theorem dX12_cost_61 : decode cX12_cost 61 = .ok (.iload_n 1, 1) := by decide +kernel
theorem dX12_cost_62 : decode cX12_cost 62 = .ok (.imul, 1) := by decide +kernel
theorem dX12_cost_63 : decode cX12_cost 63 = .ok (.iadd, 1) := by decide +kernel
theorem dX12_cost_64 : decode cX12_cost 64 = .ok (.istore_n 2, 1) := by decide +kernel
theorem dX12_cost_65 : decode cX12_cost 65 = .ok (.iinc 3 1, 3) := by decide +kernel
theorem dX12_cost_68 : decode cX12_cost 68 = .ok (.goto (-62), 3) := by decide +kernel
theorem dX12_cost_71 : decode cX12_cost 71 = .ok (.iload_n 2, 1) := by decide +kernel
theorem dX12_cost_72 : decode cX12_cost 72 = .ok (.ireturn, 1) := by decide +kernel
theorem dX12_change_0 : decode cX12_change 0 = .ok (.aload_n 0, 1) := by decide +kernel
theorem dX12_change_1 : decode cX12_change 1 = .ok (.getfield 25, 3) := by decide +kernel
theorem dX12_change_4 : decode cX12_change 4 = .ok (.iload_n 1, 1) := by decide +kernel
theorem dX12_change_5 : decode cX12_change 5 = .ok (.iaload, 1) := by decide +kernel
theorem dX12_change_6 : decode cX12_change 6 = .ok (.istore_n 2, 1) := by decide +kernel
theorem dX12_change_7 : decode cX12_change 7 = .ok (.aload_n 0, 1) := by decide +kernel
theorem dX12_change_8 : decode cX12_change 8 = .ok (.getfield 25, 3) := by decide +kernel
theorem dX12_change_11 : decode cX12_change 11 = .ok (.iload_n 1, 1) := by decide +kernel
theorem dX12_change_12 : decode cX12_change 12 = .ok (.aload_n 0, 1) := by decide +kernel
theorem dX12_change_13 : decode cX12_change 13 = .ok (.getfield 25, 3) := by decide +kernel
theorem dX12_change_16 : decode cX12_change 16 = .ok (.iload_n 1, 1) := by decide +kernel
theorem dX12_change_17 : decode cX12_change 17 = .ok (.iconst 1, 1) := by decide +kernel
theorem dX12_change_18 : decode cX12_change 18 = .ok (.iadd, 1) := by decide +kernel
theorem dX12_change_19 : decode cX12_change 19 = .ok (.iaload, 1) := by decide +kernel
theorem dX12_change_20 : decode cX12_change 20 = .ok (.iastore, 1) := by decide +kernel
theorem dX12_change_21 : decode cX12_change 21 = .ok (.aload_n 0, 1) := by decide +kernel
theorem dX12_change_22 : decode cX12_change 22 = .ok (.getfield 25, 3) := by decide +kernel
theorem dX12_change_25 : decode cX12_change 25 = .ok (.iload_n 1, 1) := by decide +kernel
theorem dX12_change_26 : decode cX12_change 26 = .ok (.iconst 1, 1) := by decide +kernel
theorem dX12_change_27 : decode cX12_change 27 = .ok (.iadd, 1) := by decide +kernel
theorem dX12_change_28 : decode cX12_change 28 = .ok (.iload_n 2, 1) := by decide +kernel
theorem dX12_change_29 : decode cX12_change 29 = .ok (.iastore, 1) := by decide +kernel
theorem dX12_change_30 : decode cX12_change 30 = .ok (.return_, 1) := by decide +kernel
theorem dX12_swap_0 : decode cX12_swap 0 = .ok (.iload_n 1, 1) := by decide +kernel
theorem dX12_swap_1 : decode cX12_swap 1 = .ok (.iconst 0, 1) := by decide +kernel
theorem dX12_swap_2 : decode cX12_swap 2 = .ok (.aload_n 0, 1) := by decide +kernel
theorem dX12_swap_3 : decode cX12_swap 3 = .ok (.getfield 93, 3) := by decide +kernel
theorem dX12_swap_6 : decode cX12_swap 6 = .ok (.iconst 2, 1) := by decide +kernel
theorem dX12_swap_7 : decode cX12_swap 7 = .ok (.isub, 1) := by decide +kernel
theorem dX12_swap_8 : decode cX12_swap 8 = .ok (.invokestatic 78, 3) := by decide +kernel
theorem dX12_swap_11 : decode cX12_swap 11 = .ok (.ifCond .ne 6, 3) := by decide +kernel
theorem dX12_swap_14 : decode cX12_swap 14 = .ok (.ldc 126, 2) := by decide +kernel
theorem dX12_swap_16 : decode cX12_swap 16 = .ok (.ireturn, 1) := by decide +kernel
theorem dX12_swap_17 : decode cX12_swap 17 = .ok (.aload_n 0, 1) := by decide +kernel
theorem dX12_swap_18 : decode cX12_swap 18 = .ok (.invokevirtual 127, 3) := by decide +kernel
theorem dX12_swap_21 : decode cX12_swap 21 = .ok (.istore_n 2, 1) := by decide +kernel
theorem dX12_swap_22 : decode cX12_swap 22 = .ok (.aload_n 0, 1) := by decide +kernel
theorem dX12_swap_23 : decode cX12_swap 23 = .ok (.iload_n 1, 1) := by decide +kernel
theorem dX12_swap_24 : decode cX12_swap 24 = .ok (.invokevirtual 130, 3) := by decide +kernel
theorem dX12_swap_27 : decode cX12_swap 27 = .ok (.aload_n 0, 1) := by decide +kernel
theorem dX12_swap_28 : decode cX12_swap 28 = .ok (.invokevirtual 127, 3) := by decide +kernel
theorem dX12_swap_31 : decode cX12_swap 31 = .ok (.istore_n 3, 1) := by decide +kernel
theorem dX12_swap_32 : decode cX12_swap 32 = .ok (.aload_n 0, 1) := by decide +kernel
theorem dX12_swap_33 : decode cX12_swap 33 = .ok (.iload_n 1, 1) := by decide +kernel
theorem dX12_swap_34 : decode cX12_swap 34 = .ok (.invokevirtual 130, 3) := by decide +kernel
theorem dX12_swap_37 : decode cX12_swap 37 = .ok (.iload_n 3, 1) := by decide +kernel
theorem dX12_swap_38 : decode cX12_swap 38 = .ok (.iload_n 2, 1) := by decide +kernel
theorem dX12_swap_39 : decode cX12_swap 39 = .ok (.isub, 1) := by decide +kernel
theorem dX12_swap_40 : decode cX12_swap 40 = .ok (.ireturn, 1) := by decide +kernel
theorem dX12_yard_0 : decode cX12_yard 0 = .ok (.aload_n 0, 1) := by decide +kernel
theorem dX12_yard_1 : decode cX12_yard 1 = .ok (.invokevirtual 110, 3) := by decide +kernel
theorem dX12_yard_4 : decode cX12_yard 4 = .ok (.iconst 0, 1) := by decide +kernel
theorem dX12_yard_5 : decode cX12_yard 5 = .ok (.istore_n 2, 1) := by decide +kernel
theorem dX12_yard_6 : decode cX12_yard 6 = .ok (.iload_n 2, 1) := by decide +kernel
theorem dX12_yard_7 : decode cX12_yard 7 = .ok (.aload_n 0, 1) := by decide +kernel
theorem dX12_yard_8 : decode cX12_yard 8 = .ok (.getfield 75, 3) := by decide +kernel
theorem dX12_yard_11 : decode cX12_yard 11 = .ok (.if_icmp .ge 128, 3) := by decide +kernel
theorem dX12_yard_14 : decode cX12_yard 14 = .ok (.aload_n 0, 1) := by decide +kernel
theorem dX12_yard_15 : decode cX12_yard 15 = .ok (.getfield 59, 3) := by decide +kernel
theorem dX12_yard_18 : decode cX12_yard 18 = .ok (.iload_n 2, 1) := by decide +kernel
theorem dX12_yard_19 : decode cX12_yard 19 = .ok (.iload_n 1, 1) := by decide +kernel
theorem dX12_yard_20 : decode cX12_yard 20 = .ok (.ifCond .eq 12, 3) := by decide +kernel
theorem dX12_yard_23 : decode cX12_yard 23 = .ok (.aload_n 0, 1) := by decide +kernel
theorem dX12_yard_24 : decode cX12_yard 24 = .ok (.getfield 13, 3) := by decide +kernel
theorem dX12_yard_27 : decode cX12_yard 27 = .ok (.iload_n 2, 1) := by decide +kernel
theorem dX12_yard_28 : decode cX12_yard 28 = .ok (.iaload, 1) := by decide +kernel
theorem dX12_yard_29 : decode cX12_yard 29 = .ok (.goto 9, 3) := by decide +kernel
theorem dX12_yard_32 : decode cX12_yard 32 = .ok (.aload_n 0, 1) := by decide +kernel
theorem dX12_yard_33 : decode cX12_yard 33 = .ok (.getfield 7, 3) := by decide +kernel
theorem dX12_yard_36 : decode cX12_yard 36 = .ok (.iload_n 2, 1) := by decide +kernel
theorem dX12_yard_37 : decode cX12_yard 37 = .ok (.iaload, 1) := by decide +kernel
theorem dX12_yard_38 : decode cX12_yard 38 = .ok (.iastore, 1) := by decide +kernel
theorem dX12_yard_39 : decode cX12_yard 39 = .ok (.aload_n 0, 1) := by decide +kernel
theorem dX12_yard_40 : decode cX12_yard 40 = .ok (.getfield 62, 3) := by decide +kernel
theorem dX12_yard_43 : decode cX12_yard 43 = .ok (.iload_n 2, 1) := by decide +kernel
theorem dX12_yard_44 : decode cX12_yard 44 = .ok (.iload_n 1, 1) := by decide +kernel
theorem dX12_yard_45 : decode cX12_yard 45 = .ok (.ifCond .eq 12, 3) := by decide +kernel
theorem dX12_yard_48 : decode cX12_yard 48 = .ok (.aload_n 0, 1) := by decide +kernel
theorem dX12_yard_49 : decode cX12_yard 49 = .ok (.getfield 7, 3) := by decide +kernel
theorem dX12_yard_52 : decode cX12_yard 52 = .ok (.iload_n 2, 1) := by decide +kernel
theorem dX12_yard_53 : decode cX12_yard 53 = .ok (.iaload, 1) := by decide +kernel
theorem dX12_yard_54 : decode cX12_yard 54 = .ok (.goto 9, 3) := by decide +kernel
theorem dX12_yard_57 : decode cX12_yard 57 = .ok (.aload_n 0, 1) := by decide +kernel
theorem dX12_yard_58 : decode cX12_yard 58 = .ok (.getfield 13, 3) := by decide +kernel
theorem dX12_yard_61 : decode cX12_yard 61 = .ok (.iload_n 2, 1) := by decide +kernel
theorem dX12_yard_62 : decode cX12_yard 62 = .ok (.iaload, 1) := by decide +kernel
theorem dX12_yard_63 : decode cX12_yard 63 = .ok (.iastore, 1) := by decide +kernel
theorem dX12_yard_64 : decode cX12_yard 64 = .ok (.aload_n 0, 1) := by decide +kernel
theorem dX12_yard_65 : decode cX12_yard 65 = .ok (.getfield 65, 3) := by decide +kernel
theorem dX12_yard_68 : decode cX12_yard 68 = .ok (.iload_n 2, 1) := by decide +kernel
theorem dX12_yard_69 : decode cX12_yard 69 = .ok (.iload_n 1, 1) := by decide +kernel
theorem dX12_yard_70 : decode cX12_yard 70 = .ok (.ifCond .eq 7, 3) := by decide +kernel
theorem dX12_yard_73 : decode cX12_yard 73 = .ok (.iconst 0, 1) := by decide +kernel
theorem dX12_yard_74 : decode cX12_yard 74 = .ok (.goto 9, 3) := by decide +kernel
theorem dX12_yard_77 : decode cX12_yard 77 = .ok (.aload_n 0, 1) := by decide +kernel
theorem dX12_yard_78 : decode cX12_yard 78 = .ok (.getfield 22, 3) := by decide +kernel
theorem dX12_yard_81 : decode cX12_yard 81 = .ok (.iload_n 2, 1) := by decide +kernel
theorem dX12_yard_82 : decode cX12_yard 82 = .ok (.iaload, 1) := by decide +kernel
theorem dX12_yard_83 : decode cX12_yard 83 = .ok (.iastore, 1) := by decide +kernel
theorem dX12_yard_84 : decode cX12_yard 84 = .ok (.iconst 0, 1) := by decide +kernel
theorem dX12_yard_85 : decode cX12_yard 85 = .ok (.istore_n 3, 1) := by decide +kernel
theorem dX12_yard_86 : decode cX12_yard 86 = .ok (.iload_n 1, 1) := by decide +kernel
theorem dX12_yard_87 : decode cX12_yard 87 = .ok (.ifCond .eq 46, 3) := by decide +kernel
theorem dX12_yard_90 : decode cX12_yard 90 = .ok (.iload_n 3, 1) := by decide +kernel
theorem dX12_yard_91 : decode cX12_yard 91 = .ok (.aload_n 0, 1) := by decide +kernel
theorem dX12_yard_92 : decode cX12_yard 92 = .ok (.getfield 75, 3) := by decide +kernel
theorem dX12_yard_95 : decode cX12_yard 95 = .ok (.if_icmp .ge 38, 3) := by decide +kernel
theorem dX12_yard_98 : decode cX12_yard 98 = .ok (.aload_n 0, 1) := by decide +kernel
theorem dX12_yard_99 : decode cX12_yard 99 = .ok (.getfield 65, 3) := by decide +kernel
theorem dX12_yard_102 : decode cX12_yard 102 = .ok (.iload_n 2, 1) := by decide +kernel
theorem dX12_yard_103 : decode cX12_yard 103 = .ok (.dup2, 1) := by decide +kernel
theorem dX12_yard_104 : decode cX12_yard 104 = .ok (.iaload, 1) := by decide +kernel
theorem dX12_yard_105 : decode cX12_yard 105 = .ok (.aload_n 0, 1) := by decide +kernel
theorem dX12_yard_106 : decode cX12_yard 106 = .ok (.getfield 22, 3) := by decide +kernel
theorem dX12_yard_109 : decode cX12_yard 109 = .ok (.iload_n 3, 1) := by decide +kernel
theorem dX12_yard_110 : decode cX12_yard 110 = .ok (.iaload, 1) := by decide +kernel
theorem dX12_yard_111 : decode cX12_yard 111 = .ok (.iload_n 2, 1) := by decide +kernel
theorem dX12_yard_112 : decode cX12_yard 112 = .ok (.invokestatic 82, 3) := by decide +kernel
theorem dX12_yard_115 : decode cX12_yard 115 = .ok (.ifCond .eq 9, 3) := by decide +kernel
theorem dX12_yard_118 : decode cX12_yard 118 = .ok (.iconst 1, 1) := by decide +kernel
theorem dX12_yard_119 : decode cX12_yard 119 = .ok (.iload_n 3, 1) := by decide +kernel
theorem dX12_yard_120 : decode cX12_yard 120 = .ok (.ishl, 1) := by decide +kernel
theorem dX12_yard_121 : decode cX12_yard 121 = .ok (.goto 4, 3) := by decide +kernel
theorem dX12_yard_124 : decode cX12_yard 124 = .ok (.iconst 0, 1) := by decide +kernel
theorem dX12_yard_125 : decode cX12_yard 125 = .ok (.ior, 1) := by decide +kernel
theorem dX12_yard_126 : decode cX12_yard 126 = .ok (.iastore, 1) := by decide +kernel
theorem dX12_yard_127 : decode cX12_yard 127 = .ok (.iinc 3 1, 3) := by decide +kernel
theorem dX12_yard_130 : decode cX12_yard 130 = .ok (.goto (-44), 3) := by decide +kernel
theorem dX12_yard_133 : decode cX12_yard 133 = .ok (.iinc 2 1, 3) := by decide +kernel
theorem dX12_yard_136 : decode cX12_yard 136 = .ok (.goto (-130), 3) := by decide +kernel
theorem dX12_yard_139 : decode cX12_yard 139 = .ok (.return_, 1) := by decide +kernel
theorem dX12_all_0 : decode cX12_all 0 = .ok (.iconst 1, 1) := by decide +kernel
theorem dX12_all_1 : decode cX12_all 1 = .ok (.aload_n 0, 1) := by decide +kernel
theorem dX12_all_2 : decode cX12_all 2 = .ok (.getfield 75, 3) := by decide +kernel
theorem dX12_all_5 : decode cX12_all 5 = .ok (.ishl, 1) := by decide +kernel
theorem dX12_all_6 : decode cX12_all 6 = .ok (.iconst 1, 1) := by decide +kernel
theorem dX12_all_7 : decode cX12_all 7 = .ok (.isub, 1) := by decide +kernel
theorem dX12_all_8 : decode cX12_all 8 = .ok (.ireturn, 1) := by decide +kernel
theorem dX12_layAll_0 : decode cX12_layAll 0 = .ok (.iconst 0, 1) := by decide +kernel
theorem dX12_layAll_1 : decode cX12_layAll 1 = .ok (.istore_n 1, 1) := by decide +kernel
theorem dX12_layAll_2 : decode cX12_layAll 2 = .ok (.iload_n 1, 1) := by decide +kernel
theorem dX12_layAll_3 : decode cX12_layAll 3 = .ok (.aload_n 0, 1) := by decide +kernel
theorem dX12_layAll_4 : decode cX12_layAll 4 = .ok (.invokevirtual 134, 3) := by decide +kernel
theorem dX12_layAll_7 : decode cX12_layAll 7 = .ok (.if_icmp .gt 90, 3) := by decide +kernel
theorem dX12_layAll_10 : decode cX12_layAll 10 = .ok (.aload_n 0, 1) := by decide +kernel
theorem dX12_layAll_11 : decode cX12_layAll 11 = .ok (.getfield 50, 3) := by decide +kernel
theorem dX12_layAll_14 : decode cX12_layAll 14 = .ok (.iload_n 1, 1) := by decide +kernel
theorem dX12_layAll_15 : decode cX12_layAll 15 = .ok (.iload_n 1, 1) := by decide +kernel
theorem dX12_layAll_16 : decode cX12_layAll 16 = .ok (.ifCond .ne 7, 3) := by decide +kernel
theorem dX12_layAll_19 : decode cX12_layAll 19 = .ok (.iconst 0, 1) := by decide +kernel
theorem dX12_layAll_20 : decode cX12_layAll 20 = .ok (.goto 5, 3) := by decide +kernel
theorem dX12_layAll_23 : decode cX12_layAll 23 = .ok (.ldc 137, 2) := by decide +kernel
theorem dX12_layAll_25 : decode cX12_layAll 25 = .ok (.iastore, 1) := by decide +kernel
theorem dX12_layAll_26 : decode cX12_layAll 26 = .ok (.aload_n 0, 1) := by decide +kernel
theorem dX12_layAll_27 : decode cX12_layAll 27 = .ok (.getfield 53, 3) := by decide +kernel
theorem dX12_layAll_30 : decode cX12_layAll 30 = .ok (.iload_n 1, 1) := by decide +kernel
theorem dX12_layAll_31 : decode cX12_layAll 31 = .ok (.iload_n 1, 1) := by decide +kernel
theorem dX12_layAll_32 : decode cX12_layAll 32 = .ok (.ifCond .ne 7, 3) := by decide +kernel
theorem dX12_layAll_35 : decode cX12_layAll 35 = .ok (.iconst 1, 1) := by decide +kernel
theorem dX12_layAll_36 : decode cX12_layAll 36 = .ok (.goto 4, 3) := by decide +kernel
theorem dX12_layAll_39 : decode cX12_layAll 39 = .ok (.iconst 0, 1) := by decide +kernel
theorem dX12_layAll_40 : decode cX12_layAll 40 = .ok (.iastore, 1) := by decide +kernel
theorem dX12_layAll_41 : decode cX12_layAll 41 = .ok (.aload_n 0, 1) := by decide +kernel
theorem dX12_layAll_42 : decode cX12_layAll 42 = .ok (.getfield 47, 3) := by decide +kernel
theorem dX12_layAll_45 : decode cX12_layAll 45 = .ok (.iload_n 1, 1) := by decide +kernel
theorem dX12_layAll_46 : decode cX12_layAll 46 = .ok (.iconst 0, 1) := by decide +kernel
theorem dX12_layAll_47 : decode cX12_layAll 47 = .ok (.iastore, 1) := by decide +kernel
theorem dX12_layAll_48 : decode cX12_layAll 48 = .ok (.iconst 0, 1) := by decide +kernel
theorem dX12_layAll_49 : decode cX12_layAll 49 = .ok (.istore_n 2, 1) := by decide +kernel
theorem dX12_layAll_50 : decode cX12_layAll 50 = .ok (.iload_n 2, 1) := by decide +kernel
theorem dX12_layAll_51 : decode cX12_layAll 51 = .ok (.aload_n 0, 1) := by decide +kernel
theorem dX12_layAll_52 : decode cX12_layAll 52 = .ok (.getfield 75, 3) := by decide +kernel
theorem dX12_layAll_55 : decode cX12_layAll 55 = .ok (.if_icmp .ge 36, 3) := by decide +kernel
theorem dX12_layAll_58 : decode cX12_layAll 58 = .ok (.aload_n 0, 1) := by decide +kernel
theorem dX12_layAll_59 : decode cX12_layAll 59 = .ok (.getfield 47, 3) := by decide +kernel
theorem dX12_layAll_62 : decode cX12_layAll 62 = .ok (.iload_n 1, 1) := by decide +kernel
theorem dX12_layAll_63 : decode cX12_layAll 63 = .ok (.dup2, 1) := by decide +kernel
theorem dX12_layAll_64 : decode cX12_layAll 64 = .ok (.iaload, 1) := by decide +kernel
theorem dX12_layAll_65 : decode cX12_layAll 65 = .ok (.iload_n 1, 1) := by decide +kernel
theorem dX12_layAll_66 : decode cX12_layAll 66 = .ok (.iload_n 2, 1) := by decide +kernel
theorem dX12_layAll_67 : decode cX12_layAll 67 = .ok (.invokestatic 82, 3) := by decide +kernel
theorem dX12_layAll_70 : decode cX12_layAll 70 = .ok (.ifCond .eq 12, 3) := by decide +kernel
theorem dX12_layAll_73 : decode cX12_layAll 73 = .ok (.aload_n 0, 1) := by decide +kernel
theorem dX12_layAll_74 : decode cX12_layAll 74 = .ok (.getfield 59, 3) := by decide +kernel
theorem dX12_layAll_77 : decode cX12_layAll 77 = .ok (.iload_n 2, 1) := by decide +kernel
theorem dX12_layAll_78 : decode cX12_layAll 78 = .ok (.iaload, 1) := by decide +kernel
theorem dX12_layAll_79 : decode cX12_layAll 79 = .ok (.goto 4, 3) := by decide +kernel
theorem dX12_layAll_82 : decode cX12_layAll 82 = .ok (.iconst 0, 1) := by decide +kernel
theorem dX12_layAll_83 : decode cX12_layAll 83 = .ok (.iadd, 1) := by decide +kernel
theorem dX12_layAll_84 : decode cX12_layAll 84 = .ok (.iastore, 1) := by decide +kernel
theorem dX12_layAll_85 : decode cX12_layAll 85 = .ok (.iinc 2 1, 3) := by decide +kernel
theorem dX12_layAll_88 : decode cX12_layAll 88 = .ok (.goto (-38), 3) := by decide +kernel
theorem dX12_layAll_91 : decode cX12_layAll 91 = .ok (.iinc 1 1, 3) := by decide +kernel
theorem dX12_layAll_94 : decode cX12_layAll 94 = .ok (.goto (-92), 3) := by decide +kernel
theorem dX12_layAll_97 : decode cX12_layAll 97 = .ok (.iconst 0, 1) := by decide +kernel
theorem dX12_layAll_98 : decode cX12_layAll 98 = .ok (.istore_n 1, 1) := by decide +kernel
theorem dX12_layAll_99 : decode cX12_layAll 99 = .ok (.iload_n 1, 1) := by decide +kernel
theorem dX12_layAll_100 : decode cX12_layAll 100 = .ok (.aload_n 0, 1) := by decide +kernel
theorem dX12_layAll_101 : decode cX12_layAll 101 = .ok (.invokevirtual 134, 3) := by decide +kernel
theorem dX12_layAll_104 : decode cX12_layAll 104 = .ok (.if_icmp .gt 94, 3) := by decide +kernel
theorem dX12_layAll_107 : decode cX12_layAll 107 = .ok (.iconst 0, 1) := by decide +kernel
theorem dX12_layAll_108 : decode cX12_layAll 108 = .ok (.istore_n 2, 1) := by decide +kernel
theorem dX12_layAll_109 : decode cX12_layAll 109 = .ok (.iload_n 2, 1) := by decide +kernel
theorem dX12_layAll_110 : decode cX12_layAll 110 = .ok (.aload_n 0, 1) := by decide +kernel
theorem dX12_layAll_111 : decode cX12_layAll 111 = .ok (.getfield 75, 3) := by decide +kernel
theorem dX12_layAll_114 : decode cX12_layAll 114 = .ok (.if_icmp .ge 78, 3) := by decide +kernel
theorem dX12_layAll_117 : decode cX12_layAll 117 = .ok (.aload_n 0, 1) := by decide +kernel
theorem dX12_layAll_118 : decode cX12_layAll 118 = .ok (.getfield 50, 3) := by decide +kernel
theorem dX12_layAll_121 : decode cX12_layAll 121 = .ok (.iload_n 1, 1) := by decide +kernel
theorem dX12_layAll_122 : decode cX12_layAll 122 = .ok (.iaload, 1) := by decide +kernel
theorem dX12_layAll_123 : decode cX12_layAll 123 = .ok (.ldc 137, 2) := by decide +kernel
theorem dX12_layAll_125 : decode cX12_layAll 125 = .ok (.if_icmp .ge 67, 3) := by decide +kernel
theorem dX12_layAll_128 : decode cX12_layAll 128 = .ok (.iload_n 1, 1) := by decide +kernel
theorem dX12_layAll_129 : decode cX12_layAll 129 = .ok (.iload_n 2, 1) := by decide +kernel
theorem dX12_layAll_130 : decode cX12_layAll 130 = .ok (.invokestatic 82, 3) := by decide +kernel
theorem dX12_layAll_133 : decode cX12_layAll 133 = .ok (.ifCond .ne 53, 3) := by decide +kernel
theorem dX12_layAll_136 : decode cX12_layAll 136 = .ok (.aload_n 0, 1) := by decide +kernel
theorem dX12_layAll_137 : decode cX12_layAll 137 = .ok (.getfield 65, 3) := by decide +kernel
theorem dX12_layAll_140 : decode cX12_layAll 140 = .ok (.iload_n 2, 1) := by decide +kernel
theorem dX12_layAll_141 : decode cX12_layAll 141 = .ok (.iaload, 1) := by decide +kernel
theorem dX12_layAll_142 : decode cX12_layAll 142 = .ok (.iload_n 1, 1) := by decide +kernel
theorem dX12_layAll_143 : decode cX12_layAll 143 = .ok (.iconst (-1), 1) := by decide +kernel
theorem dX12_layAll_144 : decode cX12_layAll 144 = .ok (.ixor, 1) := by decide +kernel
theorem dX12_layAll_145 : decode cX12_layAll 145 = .ok (.iand, 1) := by decide +kernel
theorem dX12_layAll_146 : decode cX12_layAll 146 = .ok (.ifCond .ne 40, 3) := by decide +kernel
theorem dX12_layAll_149 : decode cX12_layAll 149 = .ok (.aload_n 0, 1) := by decide +kernel
theorem dX12_layAll_150 : decode cX12_layAll 150 = .ok (.iload_n 1, 1) := by decide +kernel
theorem dX12_layAll_151 : decode cX12_layAll 151 = .ok (.iload_n 1, 1) := by decide +kernel
theorem dX12_layAll_152 : decode cX12_layAll 152 = .ok (.iconst 1, 1) := by decide +kernel
theorem dX12_layAll_153 : decode cX12_layAll 153 = .ok (.iload_n 2, 1) := by decide +kernel
theorem dX12_layAll_154 : decode cX12_layAll 154 = .ok (.ishl, 1) := by decide +kernel
theorem dX12_layAll_155 : decode cX12_layAll 155 = .ok (.ior, 1) := by decide +kernel
theorem dX12_layAll_156 : decode cX12_layAll 156 = .ok (.aload_n 0, 1) := by decide +kernel
theorem dX12_layAll_157 : decode cX12_layAll 157 = .ok (.getfield 50, 3) := by decide +kernel
theorem dX12_layAll_160 : decode cX12_layAll 160 = .ok (.iload_n 1, 1) := by decide +kernel
theorem dX12_layAll_161 : decode cX12_layAll 161 = .ok (.iaload, 1) := by decide +kernel
theorem dX12_layAll_162 : decode cX12_layAll 162 = .ok (.aload_n 0, 1) := by decide +kernel
theorem dX12_layAll_163 : decode cX12_layAll 163 = .ok (.getfield 62, 3) := by decide +kernel
theorem dX12_layAll_166 : decode cX12_layAll 166 = .ok (.iload_n 2, 1) := by decide +kernel
theorem dX12_layAll_167 : decode cX12_layAll 167 = .ok (.iaload, 1) := by decide +kernel
theorem dX12_layAll_168 : decode cX12_layAll 168 = .ok (.aload_n 0, 1) := by decide +kernel
theorem dX12_layAll_169 : decode cX12_layAll 169 = .ok (.getfield 47, 3) := by decide +kernel
theorem dX12_layAll_172 : decode cX12_layAll 172 = .ok (.iload_n 1, 1) := by decide +kernel
theorem dX12_layAll_173 : decode cX12_layAll 173 = .ok (.iaload, 1) := by decide +kernel
theorem dX12_layAll_174 : decode cX12_layAll 174 = .ok (.aload_n 0, 1) := by decide +kernel
theorem dX12_layAll_175 : decode cX12_layAll 175 = .ok (.getfield 59, 3) := by decide +kernel
theorem dX12_layAll_178 : decode cX12_layAll 178 = .ok (.iload_n 2, 1) := by decide +kernel
theorem dX12_layAll_179 : decode cX12_layAll 179 = .ok (.iaload, 1) := by decide +kernel
theorem dX12_layAll_180 : decode cX12_layAll 180 = .ok (.iadd, 1) := by decide +kernel
theorem dX12_layAll_181 : decode cX12_layAll 181 = .ok (.imul, 1) := by decide +kernel
theorem dX12_layAll_182 : decode cX12_layAll 182 = .ok (.iadd, 1) := by decide +kernel
theorem dX12_layAll_183 : decode cX12_layAll 183 = .ok (.invokevirtual 138, 3) := by decide +kernel
theorem dX12_layAll_186 : decode cX12_layAll 186 = .ok (.iinc 2 1, 3) := by decide +kernel
end
section
theorem dX12_layAll_189 : decode cX12_layAll 189 = .ok (.goto (-80), 3) := by decide +kernel
theorem dX12_layAll_192 : decode cX12_layAll 192 = .ok (.iinc 1 1, 3) := by decide +kernel
theorem dX12_layAll_195 : decode cX12_layAll 195 = .ok (.goto (-96), 3) := by decide +kernel
theorem dX12_layAll_198 : decode cX12_layAll 198 = .ok (.aload_n 0, 1) := by decide +kernel
theorem dX12_layAll_199 : decode cX12_layAll 199 = .ok (.invokevirtual 134, 3) := by decide +kernel
theorem dX12_layAll_202 : decode cX12_layAll 202 = .ok (.istore_n 1, 1) := by decide +kernel
theorem dX12_layAll_203 : decode cX12_layAll 203 = .ok (.iload_n 1, 1) := by decide +kernel
theorem dX12_layAll_204 : decode cX12_layAll 204 = .ok (.ifCond .lt 140, 3) := by decide +kernel
theorem dX12_layAll_207 : decode cX12_layAll 207 = .ok (.aload_n 0, 1) := by decide +kernel
theorem dX12_layAll_208 : decode cX12_layAll 208 = .ok (.getfield 56, 3) := by decide +kernel
theorem dX12_layAll_211 : decode cX12_layAll 211 = .ok (.iload_n 1, 1) := by decide +kernel
theorem dX12_layAll_212 : decode cX12_layAll 212 = .ok (.iload_n 1, 1) := by decide +kernel
theorem dX12_layAll_213 : decode cX12_layAll 213 = .ok (.aload_n 0, 1) := by decide +kernel
theorem dX12_layAll_214 : decode cX12_layAll 214 = .ok (.invokevirtual 134, 3) := by decide +kernel
theorem dX12_layAll_217 : decode cX12_layAll 217 = .ok (.if_icmp .ne 7, 3) := by decide +kernel
theorem dX12_layAll_220 : decode cX12_layAll 220 = .ok (.iconst 0, 1) := by decide +kernel
theorem dX12_layAll_221 : decode cX12_layAll 221 = .ok (.goto 5, 3) := by decide +kernel
theorem dX12_layAll_224 : decode cX12_layAll 224 = .ok (.ldc 137, 2) := by decide +kernel
theorem dX12_layAll_226 : decode cX12_layAll 226 = .ok (.iastore, 1) := by decide +kernel
theorem dX12_layAll_227 : decode cX12_layAll 227 = .ok (.iconst 0, 1) := by decide +kernel
theorem dX12_layAll_228 : decode cX12_layAll 228 = .ok (.istore_n 2, 1) := by decide +kernel
theorem dX12_layAll_229 : decode cX12_layAll 229 = .ok (.iload_n 2, 1) := by decide +kernel
theorem dX12_layAll_230 : decode cX12_layAll 230 = .ok (.aload_n 0, 1) := by decide +kernel
theorem dX12_layAll_231 : decode cX12_layAll 231 = .ok (.getfield 75, 3) := by decide +kernel
theorem dX12_layAll_234 : decode cX12_layAll 234 = .ok (.if_icmp .ge 104, 3) := by decide +kernel
theorem dX12_layAll_237 : decode cX12_layAll 237 = .ok (.iload_n 1, 1) := by decide +kernel
theorem dX12_layAll_238 : decode cX12_layAll 238 = .ok (.iload_n 2, 1) := by decide +kernel
theorem dX12_layAll_239 : decode cX12_layAll 239 = .ok (.invokestatic 82, 3) := by decide +kernel
theorem dX12_layAll_242 : decode cX12_layAll 242 = .ok (.ifCond .ne 90, 3) := by decide +kernel
theorem dX12_layAll_245 : decode cX12_layAll 245 = .ok (.aload_n 0, 1) := by decide +kernel
theorem dX12_layAll_246 : decode cX12_layAll 246 = .ok (.getfield 65, 3) := by decide +kernel
theorem dX12_layAll_249 : decode cX12_layAll 249 = .ok (.iload_n 2, 1) := by decide +kernel
theorem dX12_layAll_250 : decode cX12_layAll 250 = .ok (.iaload, 1) := by decide +kernel
theorem dX12_layAll_251 : decode cX12_layAll 251 = .ok (.iload_n 1, 1) := by decide +kernel
theorem dX12_layAll_252 : decode cX12_layAll 252 = .ok (.iconst (-1), 1) := by decide +kernel
theorem dX12_layAll_253 : decode cX12_layAll 253 = .ok (.ixor, 1) := by decide +kernel
theorem dX12_layAll_254 : decode cX12_layAll 254 = .ok (.iand, 1) := by decide +kernel
theorem dX12_layAll_255 : decode cX12_layAll 255 = .ok (.ifCond .ne 77, 3) := by decide +kernel
theorem dX12_layAll_258 : decode cX12_layAll 258 = .ok (.aload_n 0, 1) := by decide +kernel
theorem dX12_layAll_259 : decode cX12_layAll 259 = .ok (.getfield 56, 3) := by decide +kernel
theorem dX12_layAll_262 : decode cX12_layAll 262 = .ok (.iload_n 1, 1) := by decide +kernel
theorem dX12_layAll_263 : decode cX12_layAll 263 = .ok (.iconst 1, 1) := by decide +kernel
theorem dX12_layAll_264 : decode cX12_layAll 264 = .ok (.iload_n 2, 1) := by decide +kernel
theorem dX12_layAll_265 : decode cX12_layAll 265 = .ok (.ishl, 1) := by decide +kernel
theorem dX12_layAll_266 : decode cX12_layAll 266 = .ok (.ior, 1) := by decide +kernel
theorem dX12_layAll_267 : decode cX12_layAll 267 = .ok (.iaload, 1) := by decide +kernel
theorem dX12_layAll_268 : decode cX12_layAll 268 = .ok (.istore_n 3, 1) := by decide +kernel
theorem dX12_layAll_269 : decode cX12_layAll 269 = .ok (.iload_n 3, 1) := by decide +kernel
theorem dX12_layAll_270 : decode cX12_layAll 270 = .ok (.ldc 137, 2) := by decide +kernel
theorem dX12_layAll_272 : decode cX12_layAll 272 = .ok (.if_icmp .ne 8, 3) := by decide +kernel
theorem dX12_layAll_275 : decode cX12_layAll 275 = .ok (.ldc 137, 2) := by decide +kernel
theorem dX12_layAll_277 : decode cX12_layAll 277 = .ok (.goto 25, 3) := by decide +kernel
theorem dX12_layAll_280 : decode cX12_layAll 280 = .ok (.aload_n 0, 1) := by decide +kernel
theorem dX12_layAll_281 : decode cX12_layAll 281 = .ok (.getfield 62, 3) := by decide +kernel
theorem dX12_layAll_284 : decode cX12_layAll 284 = .ok (.iload_n 2, 1) := by decide +kernel
theorem dX12_layAll_285 : decode cX12_layAll 285 = .ok (.iaload, 1) := by decide +kernel
theorem dX12_layAll_286 : decode cX12_layAll 286 = .ok (.aload_n 0, 1) := by decide +kernel
theorem dX12_layAll_287 : decode cX12_layAll 287 = .ok (.getfield 47, 3) := by decide +kernel
theorem dX12_layAll_290 : decode cX12_layAll 290 = .ok (.iload_n 1, 1) := by decide +kernel
theorem dX12_layAll_291 : decode cX12_layAll 291 = .ok (.iaload, 1) := by decide +kernel
theorem dX12_layAll_292 : decode cX12_layAll 292 = .ok (.aload_n 0, 1) := by decide +kernel
theorem dX12_layAll_293 : decode cX12_layAll 293 = .ok (.getfield 59, 3) := by decide +kernel
theorem dX12_layAll_296 : decode cX12_layAll 296 = .ok (.iload_n 2, 1) := by decide +kernel
theorem dX12_layAll_297 : decode cX12_layAll 297 = .ok (.iaload, 1) := by decide +kernel
theorem dX12_layAll_298 : decode cX12_layAll 298 = .ok (.iadd, 1) := by decide +kernel
theorem dX12_layAll_299 : decode cX12_layAll 299 = .ok (.imul, 1) := by decide +kernel
theorem dX12_layAll_300 : decode cX12_layAll 300 = .ok (.iload_n 3, 1) := by decide +kernel
theorem dX12_layAll_301 : decode cX12_layAll 301 = .ok (.iadd, 1) := by decide +kernel
theorem dX12_layAll_302 : decode cX12_layAll 302 = .ok (.istore 4, 2) := by decide +kernel
theorem dX12_layAll_304 : decode cX12_layAll 304 = .ok (.aload_n 0, 1) := by decide +kernel
theorem dX12_layAll_305 : decode cX12_layAll 305 = .ok (.getfield 56, 3) := by decide +kernel
theorem dX12_layAll_308 : decode cX12_layAll 308 = .ok (.iload_n 1, 1) := by decide +kernel
theorem dX12_layAll_309 : decode cX12_layAll 309 = .ok (.iload 4, 2) := by decide +kernel
theorem dX12_layAll_311 : decode cX12_layAll 311 = .ok (.aload_n 0, 1) := by decide +kernel
theorem dX12_layAll_312 : decode cX12_layAll 312 = .ok (.getfield 56, 3) := by decide +kernel
theorem dX12_layAll_315 : decode cX12_layAll 315 = .ok (.iload_n 1, 1) := by decide +kernel
theorem dX12_layAll_316 : decode cX12_layAll 316 = .ok (.iaload, 1) := by decide +kernel
theorem dX12_layAll_317 : decode cX12_layAll 317 = .ok (.if_icmp .ge 8, 3) := by decide +kernel
theorem dX12_layAll_320 : decode cX12_layAll 320 = .ok (.iload 4, 2) := by decide +kernel
theorem dX12_layAll_322 : decode cX12_layAll 322 = .ok (.goto 9, 3) := by decide +kernel
theorem dX12_layAll_325 : decode cX12_layAll 325 = .ok (.aload_n 0, 1) := by decide +kernel
theorem dX12_layAll_326 : decode cX12_layAll 326 = .ok (.getfield 56, 3) := by decide +kernel
theorem dX12_layAll_329 : decode cX12_layAll 329 = .ok (.iload_n 1, 1) := by decide +kernel
theorem dX12_layAll_330 : decode cX12_layAll 330 = .ok (.iaload, 1) := by decide +kernel
theorem dX12_layAll_331 : decode cX12_layAll 331 = .ok (.iastore, 1) := by decide +kernel
theorem dX12_layAll_332 : decode cX12_layAll 332 = .ok (.iinc 2 1, 3) := by decide +kernel
theorem dX12_layAll_335 : decode cX12_layAll 335 = .ok (.goto (-106), 3) := by decide +kernel
theorem dX12_layAll_338 : decode cX12_layAll 338 = .ok (.iinc 1 (-1), 3) := by decide +kernel
theorem dX12_layAll_341 : decode cX12_layAll 341 = .ok (.goto (-138), 3) := by decide +kernel
theorem dX12_layAll_344 : decode cX12_layAll 344 = .ok (.return_, 1) := by decide +kernel
theorem dX12_goes_0 : decode cX12_goes 0 = .ok (.iload_n 3, 1) := by decide +kernel
theorem dX12_goes_1 : decode cX12_goes 1 = .ok (.aload_n 0, 1) := by decide +kernel
theorem dX12_goes_2 : decode cX12_goes 2 = .ok (.getfield 50, 3) := by decide +kernel
theorem dX12_goes_5 : decode cX12_goes 5 = .ok (.iload_n 2, 1) := by decide +kernel
theorem dX12_goes_6 : decode cX12_goes 6 = .ok (.iaload, 1) := by decide +kernel
theorem dX12_goes_7 : decode cX12_goes 7 = .ok (.if_icmp .ge 25, 3) := by decide +kernel
theorem dX12_goes_10 : decode cX12_goes 10 = .ok (.aload_n 0, 1) := by decide +kernel
theorem dX12_goes_11 : decode cX12_goes 11 = .ok (.getfield 50, 3) := by decide +kernel
theorem dX12_goes_14 : decode cX12_goes 14 = .ok (.iload_n 2, 1) := by decide +kernel
theorem dX12_goes_15 : decode cX12_goes 15 = .ok (.iload_n 3, 1) := by decide +kernel
theorem dX12_goes_16 : decode cX12_goes 16 = .ok (.iastore, 1) := by decide +kernel
theorem dX12_goes_17 : decode cX12_goes 17 = .ok (.aload_n 0, 1) := by decide +kernel
theorem dX12_goes_18 : decode cX12_goes 18 = .ok (.getfield 53, 3) := by decide +kernel
theorem dX12_goes_21 : decode cX12_goes 21 = .ok (.iload_n 2, 1) := by decide +kernel
theorem dX12_goes_22 : decode cX12_goes 22 = .ok (.aload_n 0, 1) := by decide +kernel
theorem dX12_goes_23 : decode cX12_goes 23 = .ok (.getfield 53, 3) := by decide +kernel
theorem dX12_goes_26 : decode cX12_goes 26 = .ok (.iload_n 1, 1) := by decide +kernel
theorem dX12_goes_27 : decode cX12_goes 27 = .ok (.iaload, 1) := by decide +kernel
theorem dX12_goes_28 : decode cX12_goes 28 = .ok (.iastore, 1) := by decide +kernel
theorem dX12_goes_29 : decode cX12_goes 29 = .ok (.goto 28, 3) := by decide +kernel
theorem dX12_goes_32 : decode cX12_goes 32 = .ok (.iload_n 3, 1) := by decide +kernel
theorem dX12_goes_33 : decode cX12_goes 33 = .ok (.aload_n 0, 1) := by decide +kernel
theorem dX12_goes_34 : decode cX12_goes 34 = .ok (.getfield 50, 3) := by decide +kernel
theorem dX12_goes_37 : decode cX12_goes 37 = .ok (.iload_n 2, 1) := by decide +kernel
theorem dX12_goes_38 : decode cX12_goes 38 = .ok (.iaload, 1) := by decide +kernel
theorem dX12_goes_39 : decode cX12_goes 39 = .ok (.if_icmp .ne 18, 3) := by decide +kernel
theorem dX12_goes_42 : decode cX12_goes 42 = .ok (.aload_n 0, 1) := by decide +kernel
theorem dX12_goes_43 : decode cX12_goes 43 = .ok (.getfield 53, 3) := by decide +kernel
theorem dX12_goes_46 : decode cX12_goes 46 = .ok (.iload_n 2, 1) := by decide +kernel
theorem dX12_goes_47 : decode cX12_goes 47 = .ok (.dup2, 1) := by decide +kernel
theorem dX12_goes_48 : decode cX12_goes 48 = .ok (.iaload, 1) := by decide +kernel
theorem dX12_goes_49 : decode cX12_goes 49 = .ok (.aload_n 0, 1) := by decide +kernel
theorem dX12_goes_50 : decode cX12_goes 50 = .ok (.getfield 53, 3) := by decide +kernel
theorem dX12_goes_53 : decode cX12_goes 53 = .ok (.iload_n 1, 1) := by decide +kernel
theorem dX12_goes_54 : decode cX12_goes 54 = .ok (.iaload, 1) := by decide +kernel
theorem dX12_goes_55 : decode cX12_goes 55 = .ok (.iadd, 1) := by decide +kernel
theorem dX12_goes_56 : decode cX12_goes 56 = .ok (.iastore, 1) := by decide +kernel
theorem dX12_goes_57 : decode cX12_goes 57 = .ok (.return_, 1) := by decide +kernel
theorem dX12_look_0 : decode cX12_look 0 = .ok (.aload_n 0, 1) := by decide +kernel
theorem dX12_look_1 : decode cX12_look 1 = .ok (.iconst 0, 1) := by decide +kernel
theorem dX12_look_2 : decode cX12_look 2 = .ok (.invokevirtual 142, 3) := by decide +kernel
theorem dX12_look_5 : decode cX12_look 5 = .ok (.aload_n 0, 1) := by decide +kernel
theorem dX12_look_6 : decode cX12_look 6 = .ok (.invokevirtual 146, 3) := by decide +kernel
theorem dX12_look_9 : decode cX12_look 9 = .ok (.return_, 1) := by decide +kernel
theorem dX12_least_0 : decode cX12_least 0 = .ok (.aload_n 0, 1) := by decide +kernel
theorem dX12_least_1 : decode cX12_least 1 = .ok (.invokevirtual 149, 3) := by decide +kernel
theorem dX12_least_4 : decode cX12_least 4 = .ok (.aload_n 0, 1) := by decide +kernel
theorem dX12_least_5 : decode cX12_least 5 = .ok (.getfield 50, 3) := by decide +kernel
theorem dX12_least_8 : decode cX12_least 8 = .ok (.aload_n 0, 1) := by decide +kernel
theorem dX12_least_9 : decode cX12_least 9 = .ok (.invokevirtual 134, 3) := by decide +kernel
theorem dX12_least_12 : decode cX12_least 12 = .ok (.iaload, 1) := by decide +kernel
theorem dX12_least_13 : decode cX12_least 13 = .ok (.ireturn, 1) := by decide +kernel
theorem dX12_many_0 : decode cX12_many 0 = .ok (.aload_n 0, 1) := by decide +kernel
theorem dX12_many_1 : decode cX12_many 1 = .ok (.invokevirtual 149, 3) := by decide +kernel
theorem dX12_many_4 : decode cX12_many 4 = .ok (.aload_n 0, 1) := by decide +kernel
theorem dX12_many_5 : decode cX12_many 5 = .ok (.getfield 53, 3) := by decide +kernel
theorem dX12_many_8 : decode cX12_many 8 = .ok (.aload_n 0, 1) := by decide +kernel
theorem dX12_many_9 : decode cX12_many 9 = .ok (.invokevirtual 134, 3) := by decide +kernel
theorem dX12_many_12 : decode cX12_many 12 = .ok (.iaload, 1) := by decide +kernel
theorem dX12_many_13 : decode cX12_many 13 = .ok (.ireturn, 1) := by decide +kernel
theorem dX12_best_0 : decode cX12_best 0 = .ok (.aload_n 0, 1) := by decide +kernel
theorem dX12_best_1 : decode cX12_best 1 = .ok (.invokevirtual 149, 3) := by decide +kernel
theorem dX12_best_4 : decode cX12_best 4 = .ok (.iconst 0, 1) := by decide +kernel
theorem dX12_best_5 : decode cX12_best 5 = .ok (.istore_n 2, 1) := by decide +kernel
theorem dX12_best_6 : decode cX12_best 6 = .ok (.iconst (-1), 1) := by decide +kernel
theorem dX12_best_7 : decode cX12_best 7 = .ok (.istore_n 3, 1) := by decide +kernel
theorem dX12_best_8 : decode cX12_best 8 = .ok (.iconst 0, 1) := by decide +kernel
theorem dX12_best_9 : decode cX12_best 9 = .ok (.istore 4, 2) := by decide +kernel
theorem dX12_best_11 : decode cX12_best 11 = .ok (.iload 4, 2) := by decide +kernel
theorem dX12_best_13 : decode cX12_best 13 = .ok (.iload_n 1, 1) := by decide +kernel
theorem dX12_best_14 : decode cX12_best 14 = .ok (.if_icmp .gt 142, 3) := by decide +kernel
theorem dX12_best_17 : decode cX12_best 17 = .ok (.iload 4, 2) := by decide +kernel
theorem dX12_best_19 : decode cX12_best 19 = .ok (.aload_n 0, 1) := by decide +kernel
theorem dX12_best_20 : decode cX12_best 20 = .ok (.getfield 75, 3) := by decide +kernel
theorem dX12_best_23 : decode cX12_best 23 = .ok (.if_icmp .ge 133, 3) := by decide +kernel
theorem dX12_best_26 : decode cX12_best 26 = .ok (.iconst (-1), 1) := by decide +kernel
theorem dX12_best_27 : decode cX12_best 27 = .ok (.istore_n 3, 1) := by decide +kernel
theorem dX12_best_28 : decode cX12_best 28 = .ok (.aload_n 0, 1) := by decide +kernel
theorem dX12_best_29 : decode cX12_best 29 = .ok (.getfield 75, 3) := by decide +kernel
theorem dX12_best_32 : decode cX12_best 32 = .ok (.iconst 1, 1) := by decide +kernel
theorem dX12_best_33 : decode cX12_best 33 = .ok (.isub, 1) := by decide +kernel
theorem dX12_best_34 : decode cX12_best 34 = .ok (.istore 5, 2) := by decide +kernel
theorem dX12_best_36 : decode cX12_best 36 = .ok (.iload 5, 2) := by decide +kernel
theorem dX12_best_38 : decode cX12_best 38 = .ok (.ifCond .lt 106, 3) := by decide +kernel
theorem dX12_best_41 : decode cX12_best 41 = .ok (.iload_n 2, 1) := by decide +kernel
theorem dX12_best_42 : decode cX12_best 42 = .ok (.iload 5, 2) := by decide +kernel
theorem dX12_best_44 : decode cX12_best 44 = .ok (.invokestatic 82, 3) := by decide +kernel
theorem dX12_best_47 : decode cX12_best 47 = .ok (.ifCond .ne 21, 3) := by decide +kernel
theorem dX12_best_50 : decode cX12_best 50 = .ok (.aload_n 0, 1) := by decide +kernel
theorem dX12_best_51 : decode cX12_best 51 = .ok (.getfield 65, 3) := by decide +kernel
theorem dX12_best_54 : decode cX12_best 54 = .ok (.iload 5, 2) := by decide +kernel
theorem dX12_best_56 : decode cX12_best 56 = .ok (.iaload, 1) := by decide +kernel
theorem dX12_best_57 : decode cX12_best 57 = .ok (.iload_n 2, 1) := by decide +kernel
theorem dX12_best_58 : decode cX12_best 58 = .ok (.iconst (-1), 1) := by decide +kernel
theorem dX12_best_59 : decode cX12_best 59 = .ok (.ixor, 1) := by decide +kernel
theorem dX12_best_60 : decode cX12_best 60 = .ok (.iand, 1) := by decide +kernel
theorem dX12_best_61 : decode cX12_best 61 = .ok (.ifCond .ne 7, 3) := by decide +kernel
theorem dX12_best_64 : decode cX12_best 64 = .ok (.iconst 1, 1) := by decide +kernel
theorem dX12_best_65 : decode cX12_best 65 = .ok (.goto 4, 3) := by decide +kernel
theorem dX12_best_68 : decode cX12_best 68 = .ok (.iconst 0, 1) := by decide +kernel
theorem dX12_best_69 : decode cX12_best 69 = .ok (.istore 6, 2) := by decide +kernel
theorem dX12_best_71 : decode cX12_best 71 = .ok (.iload 6, 2) := by decide +kernel
theorem dX12_best_73 : decode cX12_best 73 = .ok (.ifCond .eq 50, 3) := by decide +kernel
theorem dX12_best_76 : decode cX12_best 76 = .ok (.aload_n 0, 1) := by decide +kernel
theorem dX12_best_77 : decode cX12_best 77 = .ok (.getfield 62, 3) := by decide +kernel
theorem dX12_best_80 : decode cX12_best 80 = .ok (.iload 5, 2) := by decide +kernel
theorem dX12_best_82 : decode cX12_best 82 = .ok (.iaload, 1) := by decide +kernel
theorem dX12_best_83 : decode cX12_best 83 = .ok (.aload_n 0, 1) := by decide +kernel
theorem dX12_best_84 : decode cX12_best 84 = .ok (.getfield 47, 3) := by decide +kernel
theorem dX12_best_87 : decode cX12_best 87 = .ok (.iload_n 2, 1) := by decide +kernel
theorem dX12_best_88 : decode cX12_best 88 = .ok (.iaload, 1) := by decide +kernel
theorem dX12_best_89 : decode cX12_best 89 = .ok (.aload_n 0, 1) := by decide +kernel
theorem dX12_best_90 : decode cX12_best 90 = .ok (.getfield 59, 3) := by decide +kernel
theorem dX12_best_93 : decode cX12_best 93 = .ok (.iload 5, 2) := by decide +kernel
theorem dX12_best_95 : decode cX12_best 95 = .ok (.iaload, 1) := by decide +kernel
theorem dX12_best_96 : decode cX12_best 96 = .ok (.iadd, 1) := by decide +kernel
theorem dX12_best_97 : decode cX12_best 97 = .ok (.imul, 1) := by decide +kernel
theorem dX12_best_98 : decode cX12_best 98 = .ok (.aload_n 0, 1) := by decide +kernel
theorem dX12_best_99 : decode cX12_best 99 = .ok (.getfield 56, 3) := by decide +kernel
theorem dX12_best_102 : decode cX12_best 102 = .ok (.iload_n 2, 1) := by decide +kernel
theorem dX12_best_103 : decode cX12_best 103 = .ok (.iconst 1, 1) := by decide +kernel
theorem dX12_best_104 : decode cX12_best 104 = .ok (.iload 5, 2) := by decide +kernel
theorem dX12_best_106 : decode cX12_best 106 = .ok (.ishl, 1) := by decide +kernel
theorem dX12_best_107 : decode cX12_best 107 = .ok (.ior, 1) := by decide +kernel
theorem dX12_best_108 : decode cX12_best 108 = .ok (.iaload, 1) := by decide +kernel
theorem dX12_best_109 : decode cX12_best 109 = .ok (.iadd, 1) := by decide +kernel
theorem dX12_best_110 : decode cX12_best 110 = .ok (.aload_n 0, 1) := by decide +kernel
theorem dX12_best_111 : decode cX12_best 111 = .ok (.getfield 56, 3) := by decide +kernel
theorem dX12_best_114 : decode cX12_best 114 = .ok (.iload_n 2, 1) := by decide +kernel
theorem dX12_best_115 : decode cX12_best 115 = .ok (.iaload, 1) := by decide +kernel
theorem dX12_best_116 : decode cX12_best 116 = .ok (.if_icmp .ne 7, 3) := by decide +kernel
theorem dX12_best_119 : decode cX12_best 119 = .ok (.iconst 1, 1) := by decide +kernel
theorem dX12_best_120 : decode cX12_best 120 = .ok (.goto 4, 3) := by decide +kernel
theorem dX12_best_123 : decode cX12_best 123 = .ok (.iconst 0, 1) := by decide +kernel
theorem dX12_best_124 : decode cX12_best 124 = .ok (.istore 7, 2) := by decide +kernel
theorem dX12_best_126 : decode cX12_best 126 = .ok (.iload 7, 2) := by decide +kernel
theorem dX12_best_128 : decode cX12_best 128 = .ok (.ifCond .eq 8, 3) := by decide +kernel
theorem dX12_best_131 : decode cX12_best 131 = .ok (.iload 5, 2) := by decide +kernel
theorem dX12_best_133 : decode cX12_best 133 = .ok (.goto 4, 3) := by decide +kernel
theorem dX12_best_136 : decode cX12_best 136 = .ok (.iload_n 3, 1) := by decide +kernel
theorem dX12_best_137 : decode cX12_best 137 = .ok (.istore_n 3, 1) := by decide +kernel
theorem dX12_best_138 : decode cX12_best 138 = .ok (.iinc 5 (-1), 3) := by decide +kernel
theorem dX12_best_141 : decode cX12_best 141 = .ok (.goto (-105), 3) := by decide +kernel
theorem dX12_best_144 : decode cX12_best 144 = .ok (.iload_n 2, 1) := by decide +kernel
theorem dX12_best_145 : decode cX12_best 145 = .ok (.iconst 1, 1) := by decide +kernel
theorem dX12_best_146 : decode cX12_best 146 = .ok (.iload_n 3, 1) := by decide +kernel
theorem dX12_best_147 : decode cX12_best 147 = .ok (.ishl, 1) := by decide +kernel
theorem dX12_best_148 : decode cX12_best 148 = .ok (.ior, 1) := by decide +kernel
theorem dX12_best_149 : decode cX12_best 149 = .ok (.istore_n 2, 1) := by decide +kernel
theorem dX12_best_150 : decode cX12_best 150 = .ok (.iinc 4 1, 3) := by decide +kernel
theorem dX12_best_153 : decode cX12_best 153 = .ok (.goto (-142), 3) := by decide +kernel
theorem dX12_best_156 : decode cX12_best 156 = .ok (.iload_n 1, 1) := by decide +kernel
theorem dX12_best_157 : decode cX12_best 157 = .ok (.iconst 0, 1) := by decide +kernel
theorem dX12_best_158 : decode cX12_best 158 = .ok (.aload_n 0, 1) := by decide +kernel
theorem dX12_best_159 : decode cX12_best 159 = .ok (.getfield 75, 3) := by decide +kernel
theorem dX12_best_162 : decode cX12_best 162 = .ok (.iconst 1, 1) := by decide +kernel
theorem dX12_best_163 : decode cX12_best 163 = .ok (.isub, 1) := by decide +kernel
theorem dX12_best_164 : decode cX12_best 164 = .ok (.invokestatic 78, 3) := by decide +kernel
theorem dX12_best_167 : decode cX12_best 167 = .ok (.ifCond .eq 7, 3) := by decide +kernel
theorem dX12_best_170 : decode cX12_best 170 = .ok (.iload_n 3, 1) := by decide +kernel
theorem dX12_best_171 : decode cX12_best 171 = .ok (.goto 4, 3) := by decide +kernel
theorem dX12_best_174 : decode cX12_best 174 = .ok (.iconst (-1), 1) := by decide +kernel
theorem dX12_best_175 : decode cX12_best 175 = .ok (.ireturn, 1) := by decide +kernel
theorem dX12_fixed_0 : decode cX12_fixed 0 = .ok (.aload_n 0, 1) := by decide +kernel
theorem dX12_fixed_1 : decode cX12_fixed 1 = .ok (.iload_n 1, 1) := by decide +kernel
theorem dX12_fixed_2 : decode cX12_fixed 2 = .ok (.invokevirtual 106, 3) := by decide +kernel
theorem dX12_fixed_5 : decode cX12_fixed 5 = .ok (.ifCond .eq 16, 3) := by decide +kernel
theorem dX12_fixed_8 : decode cX12_fixed 8 = .ok (.aload_n 0, 1) := by decide +kernel
theorem dX12_fixed_9 : decode cX12_fixed 9 = .ok (.iload_n 2, 1) := by decide +kernel
theorem dX12_fixed_10 : decode cX12_fixed 10 = .ok (.invokevirtual 106, 3) := by decide +kernel
theorem dX12_fixed_13 : decode cX12_fixed 13 = .ok (.ifCond .eq 8, 3) := by decide +kernel
theorem dX12_fixed_16 : decode cX12_fixed 16 = .ok (.iload_n 1, 1) := by decide +kernel
theorem dX12_fixed_17 : decode cX12_fixed 17 = .ok (.iload_n 2, 1) := by decide +kernel
theorem dX12_fixed_18 : decode cX12_fixed 18 = .ok (.if_icmp .ne 5, 3) := by decide +kernel
theorem dX12_fixed_21 : decode cX12_fixed 21 = .ok (.iconst (-1), 1) := by decide +kernel
theorem dX12_fixed_22 : decode cX12_fixed 22 = .ok (.ireturn, 1) := by decide +kernel
theorem dX12_fixed_23 : decode cX12_fixed 23 = .ok (.aload_n 0, 1) := by decide +kernel
theorem dX12_fixed_24 : decode cX12_fixed 24 = .ok (.invokevirtual 149, 3) := by decide +kernel
theorem dX12_fixed_27 : decode cX12_fixed 27 = .ok (.iconst 1, 1) := by decide +kernel
theorem dX12_fixed_28 : decode cX12_fixed 28 = .ok (.istore_n 3, 1) := by decide +kernel
theorem dX12_fixed_29 : decode cX12_fixed 29 = .ok (.iconst 0, 1) := by decide +kernel
theorem dX12_fixed_30 : decode cX12_fixed 30 = .ok (.istore 4, 2) := by decide +kernel
theorem dX12_fixed_32 : decode cX12_fixed 32 = .ok (.iload 4, 2) := by decide +kernel
theorem dX12_fixed_34 : decode cX12_fixed 34 = .ok (.aload_n 0, 1) := by decide +kernel
theorem dX12_fixed_35 : decode cX12_fixed 35 = .ok (.invokevirtual 134, 3) := by decide +kernel
theorem dX12_fixed_38 : decode cX12_fixed 38 = .ok (.if_icmp .gt 100, 3) := by decide +kernel
theorem dX12_fixed_41 : decode cX12_fixed 41 = .ok (.iload 4, 2) := by decide +kernel
theorem dX12_fixed_43 : decode cX12_fixed 43 = .ok (.iload_n 2, 1) := by decide +kernel
theorem dX12_fixed_44 : decode cX12_fixed 44 = .ok (.invokestatic 82, 3) := by decide +kernel
theorem dX12_fixed_47 : decode cX12_fixed 47 = .ok (.ifCond .eq 40, 3) := by decide +kernel
theorem dX12_fixed_50 : decode cX12_fixed 50 = .ok (.iload 4, 2) := by decide +kernel
theorem dX12_fixed_52 : decode cX12_fixed 52 = .ok (.iload_n 1, 1) := by decide +kernel
theorem dX12_fixed_53 : decode cX12_fixed 53 = .ok (.invokestatic 82, 3) := by decide +kernel
theorem dX12_fixed_56 : decode cX12_fixed 56 = .ok (.ifCond .ne 31, 3) := by decide +kernel
theorem dX12_fixed_59 : decode cX12_fixed 59 = .ok (.aload_n 0, 1) := by decide +kernel
theorem dX12_fixed_60 : decode cX12_fixed 60 = .ok (.getfield 50, 3) := by decide +kernel
theorem dX12_fixed_63 : decode cX12_fixed 63 = .ok (.iload 4, 2) := by decide +kernel
theorem dX12_fixed_65 : decode cX12_fixed 65 = .ok (.iaload, 1) := by decide +kernel
theorem dX12_fixed_66 : decode cX12_fixed 66 = .ok (.ldc 137, 2) := by decide +kernel
theorem dX12_fixed_68 : decode cX12_fixed 68 = .ok (.if_icmp .ge 19, 3) := by decide +kernel
theorem dX12_fixed_71 : decode cX12_fixed 71 = .ok (.aload_n 0, 1) := by decide +kernel
theorem dX12_fixed_72 : decode cX12_fixed 72 = .ok (.getfield 56, 3) := by decide +kernel
theorem dX12_fixed_75 : decode cX12_fixed 75 = .ok (.iload 4, 2) := by decide +kernel
theorem dX12_fixed_77 : decode cX12_fixed 77 = .ok (.iaload, 1) := by decide +kernel
theorem dX12_fixed_78 : decode cX12_fixed 78 = .ok (.ldc 137, 2) := by decide +kernel
theorem dX12_fixed_80 : decode cX12_fixed 80 = .ok (.if_icmp .ge 7, 3) := by decide +kernel
theorem dX12_fixed_83 : decode cX12_fixed 83 = .ok (.iconst 1, 1) := by decide +kernel
theorem dX12_fixed_84 : decode cX12_fixed 84 = .ok (.goto 4, 3) := by decide +kernel
theorem dX12_fixed_87 : decode cX12_fixed 87 = .ok (.iconst 0, 1) := by decide +kernel
theorem dX12_fixed_88 : decode cX12_fixed 88 = .ok (.istore 5, 2) := by decide +kernel
theorem dX12_fixed_90 : decode cX12_fixed 90 = .ok (.iload_n 3, 1) := by decide +kernel
theorem dX12_fixed_91 : decode cX12_fixed 91 = .ok (.ifCond .eq 39, 3) := by decide +kernel
theorem dX12_fixed_94 : decode cX12_fixed 94 = .ok (.iload 5, 2) := by decide +kernel
theorem dX12_fixed_96 : decode cX12_fixed 96 = .ok (.ifCond .eq 30, 3) := by decide +kernel
theorem dX12_fixed_99 : decode cX12_fixed 99 = .ok (.aload_n 0, 1) := by decide +kernel
theorem dX12_fixed_100 : decode cX12_fixed 100 = .ok (.getfield 50, 3) := by decide +kernel
theorem dX12_fixed_103 : decode cX12_fixed 103 = .ok (.iload 4, 2) := by decide +kernel
theorem dX12_fixed_105 : decode cX12_fixed 105 = .ok (.iaload, 1) := by decide +kernel
theorem dX12_fixed_106 : decode cX12_fixed 106 = .ok (.aload_n 0, 1) := by decide +kernel
theorem dX12_fixed_107 : decode cX12_fixed 107 = .ok (.getfield 56, 3) := by decide +kernel
theorem dX12_fixed_110 : decode cX12_fixed 110 = .ok (.iload 4, 2) := by decide +kernel
theorem dX12_fixed_112 : decode cX12_fixed 112 = .ok (.iaload, 1) := by decide +kernel
theorem dX12_fixed_113 : decode cX12_fixed 113 = .ok (.iadd, 1) := by decide +kernel
theorem dX12_fixed_114 : decode cX12_fixed 114 = .ok (.aload_n 0, 1) := by decide +kernel
theorem dX12_fixed_115 : decode cX12_fixed 115 = .ok (.getfield 50, 3) := by decide +kernel
theorem dX12_fixed_118 : decode cX12_fixed 118 = .ok (.aload_n 0, 1) := by decide +kernel
theorem dX12_fixed_119 : decode cX12_fixed 119 = .ok (.invokevirtual 134, 3) := by decide +kernel
theorem dX12_fixed_122 : decode cX12_fixed 122 = .ok (.iaload, 1) := by decide +kernel
theorem dX12_fixed_123 : decode cX12_fixed 123 = .ok (.if_icmp .eq 7, 3) := by decide +kernel
theorem dX12_fixed_126 : decode cX12_fixed 126 = .ok (.iconst 1, 1) := by decide +kernel
theorem dX12_fixed_127 : decode cX12_fixed 127 = .ok (.goto 4, 3) := by decide +kernel
theorem dX12_fixed_130 : decode cX12_fixed 130 = .ok (.iconst 0, 1) := by decide +kernel
theorem dX12_fixed_131 : decode cX12_fixed 131 = .ok (.istore_n 3, 1) := by decide +kernel
theorem dX12_fixed_132 : decode cX12_fixed 132 = .ok (.iinc 4 1, 3) := by decide +kernel
theorem dX12_fixed_135 : decode cX12_fixed 135 = .ok (.goto (-103), 3) := by decide +kernel
theorem dX12_fixed_138 : decode cX12_fixed 138 = .ok (.iload_n 3, 1) := by decide +kernel
theorem dX12_fixed_139 : decode cX12_fixed 139 = .ok (.ifCond .eq 7, 3) := by decide +kernel
theorem dX12_fixed_142 : decode cX12_fixed 142 = .ok (.iconst 1, 1) := by decide +kernel
theorem dX12_fixed_143 : decode cX12_fixed 143 = .ok (.goto 4, 3) := by decide +kernel
theorem dX12_fixed_146 : decode cX12_fixed 146 = .ok (.iconst 0, 1) := by decide +kernel
theorem dX12_fixed_147 : decode cX12_fixed 147 = .ok (.ireturn, 1) := by decide +kernel
theorem dX12_turned_0 : decode cX12_turned 0 = .ok (.iconst 0, 1) := by decide +kernel
theorem dX12_turned_1 : decode cX12_turned 1 = .ok (.istore_n 1, 1) := by decide +kernel
theorem dX12_turned_2 : decode cX12_turned 2 = .ok (.iload_n 1, 1) := by decide +kernel
theorem dX12_turned_3 : decode cX12_turned 3 = .ok (.aload_n 0, 1) := by decide +kernel
theorem dX12_turned_4 : decode cX12_turned 4 = .ok (.getfield 75, 3) := by decide +kernel
theorem dX12_turned_7 : decode cX12_turned 7 = .ok (.if_icmp .ge 20, 3) := by decide +kernel
theorem dX12_turned_10 : decode cX12_turned 10 = .ok (.aload_n 0, 1) := by decide +kernel
theorem dX12_turned_11 : decode cX12_turned 11 = .ok (.getfield 13, 3) := by decide +kernel
theorem dX12_turned_14 : decode cX12_turned 14 = .ok (.iload_n 1, 1) := by decide +kernel
theorem dX12_turned_15 : decode cX12_turned 15 = .ok (.iaload, 1) := by decide +kernel
theorem dX12_turned_16 : decode cX12_turned 16 = .ok (.ifCond .ne 5, 3) := by decide +kernel
theorem dX12_turned_19 : decode cX12_turned 19 = .ok (.iconst (-1), 1) := by decide +kernel
theorem dX12_turned_20 : decode cX12_turned 20 = .ok (.ireturn, 1) := by decide +kernel
theorem dX12_turned_21 : decode cX12_turned 21 = .ok (.iinc 1 1, 3) := by decide +kernel
theorem dX12_turned_24 : decode cX12_turned 24 = .ok (.goto (-22), 3) := by decide +kernel
theorem dX12_turned_27 : decode cX12_turned 27 = .ok (.aload_n 0, 1) := by decide +kernel
theorem dX12_turned_28 : decode cX12_turned 28 = .ok (.iconst 1, 1) := by decide +kernel
theorem dX12_turned_29 : decode cX12_turned 29 = .ok (.invokevirtual 142, 3) := by decide +kernel
theorem dX12_turned_32 : decode cX12_turned 32 = .ok (.aload_n 0, 1) := by decide +kernel
theorem dX12_turned_33 : decode cX12_turned 33 = .ok (.invokevirtual 146, 3) := by decide +kernel
theorem dX12_turned_36 : decode cX12_turned 36 = .ok (.aload_n 0, 1) := by decide +kernel
theorem dX12_turned_37 : decode cX12_turned 37 = .ok (.getfield 50, 3) := by decide +kernel
theorem dX12_turned_40 : decode cX12_turned 40 = .ok (.aload_n 0, 1) := by decide +kernel
theorem dX12_turned_41 : decode cX12_turned 41 = .ok (.invokevirtual 134, 3) := by decide +kernel
theorem dX12_turned_44 : decode cX12_turned 44 = .ok (.iaload, 1) := by decide +kernel
theorem dX12_turned_45 : decode cX12_turned 45 = .ok (.ireturn, 1) := by decide +kernel
theorem dX12_weightOf_0 : decode cX12_weightOf 0 = .ok (.iconst 0, 1) := by decide +kernel
theorem dX12_weightOf_1 : decode cX12_weightOf 1 = .ok (.istore_n 2, 1) := by decide +kernel
theorem dX12_weightOf_2 : decode cX12_weightOf 2 = .ok (.iconst 0, 1) := by decide +kernel
theorem dX12_weightOf_3 : decode cX12_weightOf 3 = .ok (.istore_n 3, 1) := by decide +kernel
theorem dX12_weightOf_4 : decode cX12_weightOf 4 = .ok (.iload_n 3, 1) := by decide +kernel
theorem dX12_weightOf_5 : decode cX12_weightOf 5 = .ok (.aload_n 0, 1) := by decide +kernel
theorem dX12_weightOf_6 : decode cX12_weightOf 6 = .ok (.getfield 75, 3) := by decide +kernel
theorem dX12_weightOf_9 : decode cX12_weightOf 9 = .ok (.if_icmp .ge 30, 3) := by decide +kernel
theorem dX12_weightOf_12 : decode cX12_weightOf 12 = .ok (.iload_n 2, 1) := by decide +kernel
theorem dX12_weightOf_13 : decode cX12_weightOf 13 = .ok (.iload_n 1, 1) := by decide +kernel
theorem dX12_weightOf_14 : decode cX12_weightOf 14 = .ok (.iload_n 3, 1) := by decide +kernel
theorem dX12_weightOf_15 : decode cX12_weightOf 15 = .ok (.invokestatic 82, 3) := by decide +kernel
theorem dX12_weightOf_18 : decode cX12_weightOf 18 = .ok (.ifCond .eq 12, 3) := by decide +kernel
theorem dX12_weightOf_21 : decode cX12_weightOf 21 = .ok (.aload_n 0, 1) := by decide +kernel
theorem dX12_weightOf_22 : decode cX12_weightOf 22 = .ok (.getfield 13, 3) := by decide +kernel
theorem dX12_weightOf_25 : decode cX12_weightOf 25 = .ok (.iload_n 3, 1) := by decide +kernel
theorem dX12_weightOf_26 : decode cX12_weightOf 26 = .ok (.iaload, 1) := by decide +kernel
theorem dX12_weightOf_27 : decode cX12_weightOf 27 = .ok (.goto 4, 3) := by decide +kernel
theorem dX12_weightOf_30 : decode cX12_weightOf 30 = .ok (.iconst 0, 1) := by decide +kernel
theorem dX12_weightOf_31 : decode cX12_weightOf 31 = .ok (.iadd, 1) := by decide +kernel
theorem dX12_weightOf_32 : decode cX12_weightOf 32 = .ok (.istore_n 2, 1) := by decide +kernel
theorem dX12_weightOf_33 : decode cX12_weightOf 33 = .ok (.iinc 3 1, 3) := by decide +kernel
theorem dX12_weightOf_36 : decode cX12_weightOf 36 = .ok (.goto (-32), 3) := by decide +kernel
theorem dX12_weightOf_39 : decode cX12_weightOf 39 = .ok (.iload_n 2, 1) := by decide +kernel
theorem dX12_weightOf_40 : decode cX12_weightOf 40 = .ok (.ireturn, 1) := by decide +kernel
theorem dX12_lengthOf_0 : decode cX12_lengthOf 0 = .ok (.iconst 0, 1) := by decide +kernel
theorem dX12_lengthOf_1 : decode cX12_lengthOf 1 = .ok (.istore_n 2, 1) := by decide +kernel
theorem dX12_lengthOf_2 : decode cX12_lengthOf 2 = .ok (.iconst 0, 1) := by decide +kernel
theorem dX12_lengthOf_3 : decode cX12_lengthOf 3 = .ok (.istore_n 3, 1) := by decide +kernel
theorem dX12_lengthOf_4 : decode cX12_lengthOf 4 = .ok (.iload_n 3, 1) := by decide +kernel
theorem dX12_lengthOf_5 : decode cX12_lengthOf 5 = .ok (.aload_n 0, 1) := by decide +kernel
theorem dX12_lengthOf_6 : decode cX12_lengthOf 6 = .ok (.getfield 75, 3) := by decide +kernel
theorem dX12_lengthOf_9 : decode cX12_lengthOf 9 = .ok (.if_icmp .ge 30, 3) := by decide +kernel
theorem dX12_lengthOf_12 : decode cX12_lengthOf 12 = .ok (.iload_n 2, 1) := by decide +kernel
theorem dX12_lengthOf_13 : decode cX12_lengthOf 13 = .ok (.iload_n 1, 1) := by decide +kernel
theorem dX12_lengthOf_14 : decode cX12_lengthOf 14 = .ok (.iload_n 3, 1) := by decide +kernel
theorem dX12_lengthOf_15 : decode cX12_lengthOf 15 = .ok (.invokestatic 82, 3) := by decide +kernel
theorem dX12_lengthOf_18 : decode cX12_lengthOf 18 = .ok (.ifCond .eq 12, 3) := by decide +kernel
theorem dX12_lengthOf_21 : decode cX12_lengthOf 21 = .ok (.aload_n 0, 1) := by decide +kernel
theorem dX12_lengthOf_22 : decode cX12_lengthOf 22 = .ok (.getfield 7, 3) := by decide +kernel
theorem dX12_lengthOf_25 : decode cX12_lengthOf 25 = .ok (.iload_n 3, 1) := by decide +kernel
theorem dX12_lengthOf_26 : decode cX12_lengthOf 26 = .ok (.iaload, 1) := by decide +kernel
theorem dX12_lengthOf_27 : decode cX12_lengthOf 27 = .ok (.goto 4, 3) := by decide +kernel
theorem dX12_lengthOf_30 : decode cX12_lengthOf 30 = .ok (.iconst 0, 1) := by decide +kernel
theorem dX12_lengthOf_31 : decode cX12_lengthOf 31 = .ok (.iadd, 1) := by decide +kernel
theorem dX12_lengthOf_32 : decode cX12_lengthOf 32 = .ok (.istore_n 2, 1) := by decide +kernel
theorem dX12_lengthOf_33 : decode cX12_lengthOf 33 = .ok (.iinc 3 1, 3) := by decide +kernel
theorem dX12_lengthOf_36 : decode cX12_lengthOf 36 = .ok (.goto (-32), 3) := by decide +kernel
theorem dX12_lengthOf_39 : decode cX12_lengthOf 39 = .ok (.iload_n 2, 1) := by decide +kernel
theorem dX12_lengthOf_40 : decode cX12_lengthOf 40 = .ok (.ireturn, 1) := by decide +kernel
theorem dX12_isBeginning_0 : decode cX12_isBeginning 0 = .ok (.iconst 1, 1) := by decide +kernel
theorem dX12_isBeginning_1 : decode cX12_isBeginning 1 = .ok (.istore_n 3, 1) := by decide +kernel
theorem dX12_isBeginning_2 : decode cX12_isBeginning 2 = .ok (.iconst 0, 1) := by decide +kernel
theorem dX12_isBeginning_3 : decode cX12_isBeginning 3 = .ok (.istore 4, 2) := by decide +kernel
theorem dX12_isBeginning_5 : decode cX12_isBeginning 5 = .ok (.iload 4, 2) := by decide +kernel
theorem dX12_isBeginning_7 : decode cX12_isBeginning 7 = .ok (.aload_n 0, 1) := by decide +kernel
theorem dX12_isBeginning_8 : decode cX12_isBeginning 8 = .ok (.getfield 75, 3) := by decide +kernel
theorem dX12_isBeginning_11 : decode cX12_isBeginning 11 = .ok (.if_icmp .ge 44, 3) := by decide +kernel
theorem dX12_isBeginning_14 : decode cX12_isBeginning 14 = .ok (.iload_n 3, 1) := by decide +kernel
theorem dX12_isBeginning_15 : decode cX12_isBeginning 15 = .ok (.ifCond .eq 32, 3) := by decide +kernel
theorem dX12_isBeginning_18 : decode cX12_isBeginning 18 = .ok (.iload_n 1, 1) := by decide +kernel
theorem dX12_isBeginning_19 : decode cX12_isBeginning 19 = .ok (.iload 4, 2) := by decide +kernel
theorem dX12_isBeginning_21 : decode cX12_isBeginning 21 = .ok (.invokestatic 82, 3) := by decide +kernel
theorem dX12_isBeginning_24 : decode cX12_isBeginning 24 = .ok (.ifCond .eq 19, 3) := by decide +kernel
theorem dX12_isBeginning_27 : decode cX12_isBeginning 27 = .ok (.aload_n 0, 1) := by decide +kernel
theorem dX12_isBeginning_28 : decode cX12_isBeginning 28 = .ok (.getfield 22, 3) := by decide +kernel
theorem dX12_isBeginning_31 : decode cX12_isBeginning 31 = .ok (.iload 4, 2) := by decide +kernel
theorem dX12_isBeginning_33 : decode cX12_isBeginning 33 = .ok (.iaload, 1) := by decide +kernel
theorem dX12_isBeginning_34 : decode cX12_isBeginning 34 = .ok (.iload_n 1, 1) := by decide +kernel
theorem dX12_isBeginning_35 : decode cX12_isBeginning 35 = .ok (.iload_n 2, 1) := by decide +kernel
theorem dX12_isBeginning_36 : decode cX12_isBeginning 36 = .ok (.ior, 1) := by decide +kernel
theorem dX12_isBeginning_37 : decode cX12_isBeginning 37 = .ok (.iconst (-1), 1) := by decide +kernel
theorem dX12_isBeginning_38 : decode cX12_isBeginning 38 = .ok (.ixor, 1) := by decide +kernel
theorem dX12_isBeginning_39 : decode cX12_isBeginning 39 = .ok (.iand, 1) := by decide +kernel
theorem dX12_isBeginning_40 : decode cX12_isBeginning 40 = .ok (.ifCond .ne 7, 3) := by decide +kernel
theorem dX12_isBeginning_43 : decode cX12_isBeginning 43 = .ok (.iconst 1, 1) := by decide +kernel
theorem dX12_isBeginning_44 : decode cX12_isBeginning 44 = .ok (.goto 4, 3) := by decide +kernel
theorem dX12_isBeginning_47 : decode cX12_isBeginning 47 = .ok (.iconst 0, 1) := by decide +kernel
theorem dX12_isBeginning_48 : decode cX12_isBeginning 48 = .ok (.istore_n 3, 1) := by decide +kernel
theorem dX12_isBeginning_49 : decode cX12_isBeginning 49 = .ok (.iinc 4 1, 3) := by decide +kernel
theorem dX12_isBeginning_52 : decode cX12_isBeginning 52 = .ok (.goto (-47), 3) := by decide +kernel
theorem dX12_isBeginning_55 : decode cX12_isBeginning 55 = .ok (.iload_n 3, 1) := by decide +kernel
theorem dX12_isBeginning_56 : decode cX12_isBeginning 56 = .ok (.ireturn, 1) := by decide +kernel
theorem dX12_blockBehind_0 : decode cX12_blockBehind 0 = .ok (.iconst 0, 1) := by decide +kernel
theorem dX12_blockBehind_1 : decode cX12_blockBehind 1 = .ok (.istore_n 2, 1) := by decide +kernel
theorem dX12_blockBehind_2 : decode cX12_blockBehind 2 = .ok (.iconst 1, 1) := by decide +kernel
theorem dX12_blockBehind_3 : decode cX12_blockBehind 3 = .ok (.istore_n 3, 1) := by decide +kernel
theorem dX12_blockBehind_4 : decode cX12_blockBehind 4 = .ok (.iload_n 3, 1) := by decide +kernel
theorem dX12_blockBehind_5 : decode cX12_blockBehind 5 = .ok (.aload_n 0, 1) := by decide +kernel
theorem dX12_blockBehind_6 : decode cX12_blockBehind 6 = .ok (.invokevirtual 134, 3) := by decide +kernel
theorem dX12_blockBehind_9 : decode cX12_blockBehind 9 = .ok (.if_icmp .gt 79, 3) := by decide +kernel
theorem dX12_blockBehind_12 : decode cX12_blockBehind 12 = .ok (.iload_n 3, 1) := by decide +kernel
theorem dX12_blockBehind_13 : decode cX12_blockBehind 13 = .ok (.iload_n 1, 1) := by decide +kernel
theorem dX12_blockBehind_14 : decode cX12_blockBehind 14 = .ok (.iand, 1) := by decide +kernel
theorem dX12_blockBehind_15 : decode cX12_blockBehind 15 = .ok (.ifCond .ne 67, 3) := by decide +kernel
theorem dX12_blockBehind_18 : decode cX12_blockBehind 18 = .ok (.aload_n 0, 1) := by decide +kernel
theorem dX12_blockBehind_19 : decode cX12_blockBehind 19 = .ok (.iload_n 3, 1) := by decide +kernel
theorem dX12_blockBehind_20 : decode cX12_blockBehind 20 = .ok (.iload_n 1, 1) := by decide +kernel
theorem dX12_blockBehind_21 : decode cX12_blockBehind 21 = .ok (.invokevirtual 152, 3) := by decide +kernel
theorem dX12_blockBehind_24 : decode cX12_blockBehind 24 = .ok (.ifCond .eq 58, 3) := by decide +kernel
theorem dX12_blockBehind_27 : decode cX12_blockBehind 27 = .ok (.iload_n 2, 1) := by decide +kernel
theorem dX12_blockBehind_28 : decode cX12_blockBehind 28 = .ok (.ifCond .ne 7, 3) := by decide +kernel
theorem dX12_blockBehind_31 : decode cX12_blockBehind 31 = .ok (.iconst 1, 1) := by decide +kernel
theorem dX12_blockBehind_32 : decode cX12_blockBehind 32 = .ok (.goto 26, 3) := by decide +kernel
theorem dX12_blockBehind_35 : decode cX12_blockBehind 35 = .ok (.aload_n 0, 1) := by decide +kernel
theorem dX12_blockBehind_36 : decode cX12_blockBehind 36 = .ok (.iload_n 3, 1) := by decide +kernel
theorem dX12_blockBehind_37 : decode cX12_blockBehind 37 = .ok (.invokevirtual 155, 3) := by decide +kernel
theorem dX12_blockBehind_40 : decode cX12_blockBehind 40 = .ok (.aload_n 0, 1) := by decide +kernel
theorem dX12_blockBehind_41 : decode cX12_blockBehind 41 = .ok (.iload_n 2, 1) := by decide +kernel
theorem dX12_blockBehind_42 : decode cX12_blockBehind 42 = .ok (.invokevirtual 158, 3) := by decide +kernel
theorem dX12_blockBehind_45 : decode cX12_blockBehind 45 = .ok (.imul, 1) := by decide +kernel
theorem dX12_blockBehind_46 : decode cX12_blockBehind 46 = .ok (.aload_n 0, 1) := by decide +kernel
theorem dX12_blockBehind_47 : decode cX12_blockBehind 47 = .ok (.iload_n 2, 1) := by decide +kernel
theorem dX12_blockBehind_48 : decode cX12_blockBehind 48 = .ok (.invokevirtual 155, 3) := by decide +kernel
theorem dX12_blockBehind_51 : decode cX12_blockBehind 51 = .ok (.aload_n 0, 1) := by decide +kernel
theorem dX12_blockBehind_52 : decode cX12_blockBehind 52 = .ok (.iload_n 3, 1) := by decide +kernel
theorem dX12_blockBehind_53 : decode cX12_blockBehind 53 = .ok (.invokevirtual 158, 3) := by decide +kernel
theorem dX12_blockBehind_56 : decode cX12_blockBehind 56 = .ok (.imul, 1) := by decide +kernel
theorem dX12_blockBehind_57 : decode cX12_blockBehind 57 = .ok (.isub, 1) := by decide +kernel
theorem dX12_blockBehind_58 : decode cX12_blockBehind 58 = .ok (.istore 4, 2) := by decide +kernel
theorem dX12_blockBehind_60 : decode cX12_blockBehind 60 = .ok (.iload 4, 2) := by decide +kernel
theorem dX12_blockBehind_62 : decode cX12_blockBehind 62 = .ok (.ifCond .le 7, 3) := by decide +kernel
theorem dX12_blockBehind_65 : decode cX12_blockBehind 65 = .ok (.iload_n 3, 1) := by decide +kernel
theorem dX12_blockBehind_66 : decode cX12_blockBehind 66 = .ok (.goto 15, 3) := by decide +kernel
theorem dX12_blockBehind_69 : decode cX12_blockBehind 69 = .ok (.iload 4, 2) := by decide +kernel
theorem dX12_blockBehind_71 : decode cX12_blockBehind 71 = .ok (.ifCond .ne 9, 3) := by decide +kernel
theorem dX12_blockBehind_74 : decode cX12_blockBehind 74 = .ok (.iload_n 2, 1) := by decide +kernel
theorem dX12_blockBehind_75 : decode cX12_blockBehind 75 = .ok (.iload_n 3, 1) := by decide +kernel
theorem dX12_blockBehind_76 : decode cX12_blockBehind 76 = .ok (.ior, 1) := by decide +kernel
theorem dX12_blockBehind_77 : decode cX12_blockBehind 77 = .ok (.goto 4, 3) := by decide +kernel
theorem dX12_blockBehind_80 : decode cX12_blockBehind 80 = .ok (.iload_n 2, 1) := by decide +kernel
theorem dX12_blockBehind_81 : decode cX12_blockBehind 81 = .ok (.istore_n 2, 1) := by decide +kernel
theorem dX12_blockBehind_82 : decode cX12_blockBehind 82 = .ok (.iinc 3 1, 3) := by decide +kernel
theorem dX12_blockBehind_85 : decode cX12_blockBehind 85 = .ok (.goto (-81), 3) := by decide +kernel
theorem dX12_blockBehind_88 : decode cX12_blockBehind 88 = .ok (.iload_n 2, 1) := by decide +kernel
theorem dX12_blockBehind_89 : decode cX12_blockBehind 89 = .ok (.ireturn, 1) := by decide +kernel
theorem dX12_findBlocks_0 : decode cX12_findBlocks 0 = .ok (.aload_n 0, 1) := by decide +kernel
theorem dX12_findBlocks_1 : decode cX12_findBlocks 1 = .ok (.invokevirtual 110, 3) := by decide +kernel
theorem dX12_findBlocks_4 : decode cX12_findBlocks 4 = .ok (.aload_n 0, 1) := by decide +kernel
theorem dX12_findBlocks_5 : decode cX12_findBlocks 5 = .ok (.iconst 0, 1) := by decide +kernel
theorem dX12_findBlocks_6 : decode cX12_findBlocks 6 = .ok (.putfield 161, 3) := by decide +kernel
theorem dX12_findBlocks_9 : decode cX12_findBlocks 9 = .ok (.iconst 0, 1) := by decide +kernel
theorem dX12_findBlocks_10 : decode cX12_findBlocks 10 = .ok (.istore_n 1, 1) := by decide +kernel
theorem dX12_findBlocks_11 : decode cX12_findBlocks 11 = .ok (.iload_n 1, 1) := by decide +kernel
theorem dX12_findBlocks_12 : decode cX12_findBlocks 12 = .ok (.aload_n 0, 1) := by decide +kernel
theorem dX12_findBlocks_13 : decode cX12_findBlocks 13 = .ok (.invokevirtual 134, 3) := by decide +kernel
theorem dX12_findBlocks_16 : decode cX12_findBlocks 16 = .ok (.if_icmp .eq 42, 3) := by decide +kernel
theorem dX12_findBlocks_19 : decode cX12_findBlocks 19 = .ok (.aload_n 0, 1) := by decide +kernel
theorem dX12_findBlocks_20 : decode cX12_findBlocks 20 = .ok (.getfield 68, 3) := by decide +kernel
theorem dX12_findBlocks_23 : decode cX12_findBlocks 23 = .ok (.aload_n 0, 1) := by decide +kernel
theorem dX12_findBlocks_24 : decode cX12_findBlocks 24 = .ok (.getfield 161, 3) := by decide +kernel
theorem dX12_findBlocks_27 : decode cX12_findBlocks 27 = .ok (.aload_n 0, 1) := by decide +kernel
theorem dX12_findBlocks_28 : decode cX12_findBlocks 28 = .ok (.iload_n 1, 1) := by decide +kernel
theorem dX12_findBlocks_29 : decode cX12_findBlocks 29 = .ok (.invokevirtual 164, 3) := by decide +kernel
theorem dX12_findBlocks_32 : decode cX12_findBlocks 32 = .ok (.iastore, 1) := by decide +kernel
theorem dX12_findBlocks_33 : decode cX12_findBlocks 33 = .ok (.iload_n 1, 1) := by decide +kernel
theorem dX12_findBlocks_34 : decode cX12_findBlocks 34 = .ok (.aload_n 0, 1) := by decide +kernel
theorem dX12_findBlocks_35 : decode cX12_findBlocks 35 = .ok (.getfield 68, 3) := by decide +kernel
theorem dX12_findBlocks_38 : decode cX12_findBlocks 38 = .ok (.aload_n 0, 1) := by decide +kernel
theorem dX12_findBlocks_39 : decode cX12_findBlocks 39 = .ok (.getfield 161, 3) := by decide +kernel
theorem dX12_findBlocks_42 : decode cX12_findBlocks 42 = .ok (.iaload, 1) := by decide +kernel
theorem dX12_findBlocks_43 : decode cX12_findBlocks 43 = .ok (.ior, 1) := by decide +kernel
theorem dX12_findBlocks_44 : decode cX12_findBlocks 44 = .ok (.istore_n 1, 1) := by decide +kernel
theorem dX12_findBlocks_45 : decode cX12_findBlocks 45 = .ok (.aload_n 0, 1) := by decide +kernel
theorem dX12_findBlocks_46 : decode cX12_findBlocks 46 = .ok (.dup, 1) := by decide +kernel
theorem dX12_findBlocks_47 : decode cX12_findBlocks 47 = .ok (.getfield 161, 3) := by decide +kernel
theorem dX12_findBlocks_50 : decode cX12_findBlocks 50 = .ok (.iconst 1, 1) := by decide +kernel
theorem dX12_findBlocks_51 : decode cX12_findBlocks 51 = .ok (.iadd, 1) := by decide +kernel
theorem dX12_findBlocks_52 : decode cX12_findBlocks 52 = .ok (.putfield 161, 3) := by decide +kernel
theorem dX12_findBlocks_55 : decode cX12_findBlocks 55 = .ok (.goto (-44), 3) := by decide +kernel
theorem dX12_findBlocks_58 : decode cX12_findBlocks 58 = .ok (.return_, 1) := by decide +kernel
theorem dX12_block_0 : decode cX12_block 0 = .ok (.aload_n 0, 1) := by decide +kernel
theorem dX12_block_1 : decode cX12_block 1 = .ok (.invokevirtual 167, 3) := by decide +kernel
theorem dX12_block_4 : decode cX12_block 4 = .ok (.iload_n 1, 1) := by decide +kernel
theorem dX12_block_5 : decode cX12_block 5 = .ok (.iconst 0, 1) := by decide +kernel
theorem dX12_block_6 : decode cX12_block 6 = .ok (.aload_n 0, 1) := by decide +kernel
theorem dX12_block_7 : decode cX12_block 7 = .ok (.getfield 161, 3) := by decide +kernel
theorem dX12_block_10 : decode cX12_block 10 = .ok (.iconst 1, 1) := by decide +kernel
theorem dX12_block_11 : decode cX12_block 11 = .ok (.isub, 1) := by decide +kernel
theorem dX12_block_12 : decode cX12_block 12 = .ok (.invokestatic 78, 3) := by decide +kernel
theorem dX12_block_15 : decode cX12_block 15 = .ok (.ifCond .eq 12, 3) := by decide +kernel
theorem dX12_block_18 : decode cX12_block 18 = .ok (.iload_n 2, 1) := by decide +kernel
theorem dX12_block_19 : decode cX12_block 19 = .ok (.iconst 0, 1) := by decide +kernel
theorem dX12_block_20 : decode cX12_block 20 = .ok (.iconst 2, 1) := by decide +kernel
theorem dX12_block_21 : decode cX12_block 21 = .ok (.invokestatic 78, 3) := by decide +kernel
theorem dX12_block_24 : decode cX12_block 24 = .ok (.ifCond .ne 5, 3) := by decide +kernel
theorem dX12_block_27 : decode cX12_block 27 = .ok (.iconst (-1), 1) := by decide +kernel
theorem dX12_block_28 : decode cX12_block 28 = .ok (.ireturn, 1) := by decide +kernel
theorem dX12_block_29 : decode cX12_block 29 = .ok (.iload_n 2, 1) := by decide +kernel
theorem dX12_block_30 : decode cX12_block 30 = .ok (.ifCond .ne 12, 3) := by decide +kernel
theorem dX12_block_33 : decode cX12_block 33 = .ok (.aload_n 0, 1) := by decide +kernel
theorem dX12_block_34 : decode cX12_block 34 = .ok (.getfield 68, 3) := by decide +kernel
theorem dX12_block_37 : decode cX12_block 37 = .ok (.iload_n 1, 1) := by decide +kernel
theorem dX12_block_38 : decode cX12_block 38 = .ok (.iaload, 1) := by decide +kernel
theorem dX12_block_39 : decode cX12_block 39 = .ok (.goto 31, 3) := by decide +kernel
theorem dX12_block_42 : decode cX12_block 42 = .ok (.iload_n 2, 1) := by decide +kernel
theorem dX12_block_43 : decode cX12_block 43 = .ok (.iconst 1, 1) := by decide +kernel
theorem dX12_block_44 : decode cX12_block 44 = .ok (.if_icmp .ne 16, 3) := by decide +kernel
theorem dX12_block_47 : decode cX12_block 47 = .ok (.aload_n 0, 1) := by decide +kernel
theorem dX12_block_48 : decode cX12_block 48 = .ok (.aload_n 0, 1) := by decide +kernel
theorem dX12_block_49 : decode cX12_block 49 = .ok (.getfield 68, 3) := by decide +kernel
theorem dX12_block_52 : decode cX12_block 52 = .ok (.iload_n 1, 1) := by decide +kernel
theorem dX12_block_53 : decode cX12_block 53 = .ok (.iaload, 1) := by decide +kernel
theorem dX12_block_54 : decode cX12_block 54 = .ok (.invokevirtual 155, 3) := by decide +kernel
theorem dX12_block_57 : decode cX12_block 57 = .ok (.goto 13, 3) := by decide +kernel
theorem dX12_block_60 : decode cX12_block 60 = .ok (.aload_n 0, 1) := by decide +kernel
theorem dX12_block_61 : decode cX12_block 61 = .ok (.aload_n 0, 1) := by decide +kernel
theorem dX12_block_62 : decode cX12_block 62 = .ok (.getfield 68, 3) := by decide +kernel
theorem dX12_block_65 : decode cX12_block 65 = .ok (.iload_n 1, 1) := by decide +kernel
theorem dX12_block_66 : decode cX12_block 66 = .ok (.iaload, 1) := by decide +kernel
theorem dX12_block_67 : decode cX12_block 67 = .ok (.invokevirtual 158, 3) := by decide +kernel
theorem dX12_block_70 : decode cX12_block 70 = .ok (.ireturn, 1) := by decide +kernel
theorem dX12_kindOf_0 : decode cX12_kindOf 0 = .ok (.aload_n 0, 1) := by decide +kernel
theorem dX12_kindOf_1 : decode cX12_kindOf 1 = .ok (.invokevirtual 110, 3) := by decide +kernel
theorem dX12_kindOf_4 : decode cX12_kindOf 4 = .ok (.aload_n 0, 1) := by decide +kernel
theorem dX12_kindOf_5 : decode cX12_kindOf 5 = .ok (.getfield 16, 3) := by decide +kernel
theorem dX12_kindOf_8 : decode cX12_kindOf 8 = .ok (.iload_n 1, 1) := by decide +kernel
theorem dX12_kindOf_9 : decode cX12_kindOf 9 = .ok (.iaload, 1) := by decide +kernel
theorem dX12_kindOf_10 : decode cX12_kindOf 10 = .ok (.ifCond .le 5, 3) := by decide +kernel
theorem dX12_kindOf_13 : decode cX12_kindOf 13 = .ok (.iconst 4, 1) := by decide +kernel
theorem dX12_kindOf_14 : decode cX12_kindOf 14 = .ok (.ireturn, 1) := by decide +kernel
theorem dX12_kindOf_15 : decode cX12_kindOf 15 = .ok (.aload_n 0, 1) := by decide +kernel
theorem dX12_kindOf_16 : decode cX12_kindOf 16 = .ok (.getfield 7, 3) := by decide +kernel
theorem dX12_kindOf_19 : decode cX12_kindOf 19 = .ok (.iload_n 1, 1) := by decide +kernel
theorem dX12_kindOf_20 : decode cX12_kindOf 20 = .ok (.iaload, 1) := by decide +kernel
theorem dX12_kindOf_21 : decode cX12_kindOf 21 = .ok (.iconst 1, 1) := by decide +kernel
theorem dX12_kindOf_22 : decode cX12_kindOf 22 = .ok (.if_icmp .ne 18, 3) := by decide +kernel
theorem dX12_kindOf_25 : decode cX12_kindOf 25 = .ok (.aload_n 0, 1) := by decide +kernel
theorem dX12_kindOf_26 : decode cX12_kindOf 26 = .ok (.getfield 22, 3) := by decide +kernel
theorem dX12_kindOf_29 : decode cX12_kindOf 29 = .ok (.iload_n 1, 1) := by decide +kernel
theorem dX12_kindOf_30 : decode cX12_kindOf 30 = .ok (.iaload, 1) := by decide +kernel
theorem dX12_kindOf_31 : decode cX12_kindOf 31 = .ok (.ifCond .ne 7, 3) := by decide +kernel
theorem dX12_kindOf_34 : decode cX12_kindOf 34 = .ok (.iconst 3, 1) := by decide +kernel
theorem dX12_kindOf_35 : decode cX12_kindOf 35 = .ok (.goto 4, 3) := by decide +kernel
theorem dX12_kindOf_38 : decode cX12_kindOf 38 = .ok (.iconst 1, 1) := by decide +kernel
theorem dX12_kindOf_39 : decode cX12_kindOf 39 = .ok (.ireturn, 1) := by decide +kernel
theorem dX12_kindOf_40 : decode cX12_kindOf 40 = .ok (.aload_n 0, 1) := by decide +kernel
theorem dX12_kindOf_41 : decode cX12_kindOf 41 = .ok (.getfield 13, 3) := by decide +kernel
theorem dX12_kindOf_44 : decode cX12_kindOf 44 = .ok (.iload_n 1, 1) := by decide +kernel
theorem dX12_kindOf_45 : decode cX12_kindOf 45 = .ok (.iaload, 1) := by decide +kernel
theorem dX12_kindOf_46 : decode cX12_kindOf 46 = .ok (.ifCond .ne 7, 3) := by decide +kernel
theorem dX12_kindOf_49 : decode cX12_kindOf 49 = .ok (.iconst 2, 1) := by decide +kernel
theorem dX12_kindOf_50 : decode cX12_kindOf 50 = .ok (.goto 4, 3) := by decide +kernel
theorem dX12_kindOf_53 : decode cX12_kindOf 53 = .ok (.iconst 0, 1) := by decide +kernel
theorem dX12_kindOf_54 : decode cX12_kindOf 54 = .ok (.ireturn, 1) := by decide +kernel
theorem dX12_behindOf_0 : decode cX12_behindOf 0 = .ok (.iconst 0, 1) := by decide +kernel
theorem dX12_behindOf_1 : decode cX12_behindOf 1 = .ok (.istore_n 2, 1) := by decide +kernel
theorem dX12_behindOf_2 : decode cX12_behindOf 2 = .ok (.iconst 0, 1) := by decide +kernel
theorem dX12_behindOf_3 : decode cX12_behindOf 3 = .ok (.istore_n 3, 1) := by decide +kernel
theorem dX12_behindOf_4 : decode cX12_behindOf 4 = .ok (.iload_n 3, 1) := by decide +kernel
theorem dX12_behindOf_5 : decode cX12_behindOf 5 = .ok (.aload_n 0, 1) := by decide +kernel
theorem dX12_behindOf_6 : decode cX12_behindOf 6 = .ok (.getfield 75, 3) := by decide +kernel
theorem dX12_behindOf_9 : decode cX12_behindOf 9 = .ok (.if_icmp .ge 30, 3) := by decide +kernel
theorem dX12_behindOf_12 : decode cX12_behindOf 12 = .ok (.iload_n 2, 1) := by decide +kernel
theorem dX12_behindOf_13 : decode cX12_behindOf 13 = .ok (.aload_n 0, 1) := by decide +kernel
theorem dX12_behindOf_14 : decode cX12_behindOf 14 = .ok (.getfield 22, 3) := by decide +kernel
theorem dX12_behindOf_17 : decode cX12_behindOf 17 = .ok (.iload_n 3, 1) := by decide +kernel
theorem dX12_behindOf_18 : decode cX12_behindOf 18 = .ok (.iaload, 1) := by decide +kernel
theorem dX12_behindOf_19 : decode cX12_behindOf 19 = .ok (.iload_n 1, 1) := by decide +kernel
theorem dX12_behindOf_20 : decode cX12_behindOf 20 = .ok (.invokestatic 82, 3) := by decide +kernel
theorem dX12_behindOf_23 : decode cX12_behindOf 23 = .ok (.ifCond .eq 7, 3) := by decide +kernel
theorem dX12_behindOf_26 : decode cX12_behindOf 26 = .ok (.iconst 1, 1) := by decide +kernel
theorem dX12_behindOf_27 : decode cX12_behindOf 27 = .ok (.goto 4, 3) := by decide +kernel
theorem dX12_behindOf_30 : decode cX12_behindOf 30 = .ok (.iconst 0, 1) := by decide +kernel
theorem dX12_behindOf_31 : decode cX12_behindOf 31 = .ok (.iadd, 1) := by decide +kernel
theorem dX12_behindOf_32 : decode cX12_behindOf 32 = .ok (.istore_n 2, 1) := by decide +kernel
theorem dX12_behindOf_33 : decode cX12_behindOf 33 = .ok (.iinc 3 1, 3) := by decide +kernel
theorem dX12_behindOf_36 : decode cX12_behindOf 36 = .ok (.goto (-32), 3) := by decide +kernel
theorem dX12_behindOf_39 : decode cX12_behindOf 39 = .ok (.iload_n 2, 1) := by decide +kernel
theorem dX12_behindOf_40 : decode cX12_behindOf 40 = .ok (.ireturn, 1) := by decide +kernel
theorem dX12_blockWith_0 : decode cX12_blockWith 0 = .ok (.aload_n 0, 1) := by decide +kernel
theorem dX12_blockWith_1 : decode cX12_blockWith 1 = .ok (.invokevirtual 167, 3) := by decide +kernel
theorem dX12_blockWith_4 : decode cX12_blockWith 4 = .ok (.iconst 0, 1) := by decide +kernel
theorem dX12_blockWith_5 : decode cX12_blockWith 5 = .ok (.istore_n 2, 1) := by decide +kernel
theorem dX12_blockWith_6 : decode cX12_blockWith 6 = .ok (.aload_n 0, 1) := by decide +kernel
theorem dX12_blockWith_7 : decode cX12_blockWith 7 = .ok (.getfield 68, 3) := by decide +kernel
theorem dX12_blockWith_10 : decode cX12_blockWith 10 = .ok (.iload_n 2, 1) := by decide +kernel
theorem dX12_blockWith_11 : decode cX12_blockWith 11 = .ok (.iaload, 1) := by decide +kernel
theorem dX12_blockWith_12 : decode cX12_blockWith 12 = .ok (.iload_n 1, 1) := by decide +kernel
theorem dX12_blockWith_13 : decode cX12_blockWith 13 = .ok (.invokestatic 82, 3) := by decide +kernel
theorem dX12_blockWith_16 : decode cX12_blockWith 16 = .ok (.ifCond .ne 9, 3) := by decide +kernel
theorem dX12_blockWith_19 : decode cX12_blockWith 19 = .ok (.iinc 2 1, 3) := by decide +kernel
theorem dX12_blockWith_22 : decode cX12_blockWith 22 = .ok (.goto (-16), 3) := by decide +kernel
theorem dX12_blockWith_25 : decode cX12_blockWith 25 = .ok (.iload_n 2, 1) := by decide +kernel
theorem dX12_blockWith_26 : decode cX12_blockWith 26 = .ok (.ireturn, 1) := by decide +kernel
theorem dX12_told_0 : decode cX12_told 0 = .ok (.aload_n 0, 1) := by decide +kernel
theorem dX12_told_1 : decode cX12_told 1 = .ok (.iload_n 1, 1) := by decide +kernel
theorem dX12_told_2 : decode cX12_told 2 = .ok (.invokevirtual 106, 3) := by decide +kernel
theorem dX12_told_5 : decode cX12_told 5 = .ok (.ifCond .ne 5, 3) := by decide +kernel
theorem dX12_told_8 : decode cX12_told 8 = .ok (.iconst (-1), 1) := by decide +kernel
theorem dX12_told_9 : decode cX12_told 9 = .ok (.ireturn, 1) := by decide +kernel
theorem dX12_told_10 : decode cX12_told 10 = .ok (.aload_n 0, 1) := by decide +kernel
theorem dX12_told_11 : decode cX12_told 11 = .ok (.invokevirtual 110, 3) := by decide +kernel
theorem dX12_told_14 : decode cX12_told 14 = .ok (.iload_n 2, 1) := by decide +kernel
theorem dX12_told_15 : decode cX12_told 15 = .ok (.tableswitch 100 0 7 #[45, 52, 59, 66, 72, 82, 88, 94], 45) := by decide +kernel
theorem dX12_told_60 : decode cX12_told 60 = .ok (.aload_n 0, 1) := by decide +kernel
theorem dX12_told_61 : decode cX12_told 61 = .ok (.getfield 7, 3) := by decide +kernel
theorem dX12_told_64 : decode cX12_told 64 = .ok (.iload_n 1, 1) := by decide +kernel
theorem dX12_told_65 : decode cX12_told 65 = .ok (.iaload, 1) := by decide +kernel
theorem dX12_told_66 : decode cX12_told 66 = .ok (.ireturn, 1) := by decide +kernel
theorem dX12_told_67 : decode cX12_told 67 = .ok (.aload_n 0, 1) := by decide +kernel
theorem dX12_told_68 : decode cX12_told 68 = .ok (.getfield 13, 3) := by decide +kernel
theorem dX12_told_71 : decode cX12_told 71 = .ok (.iload_n 1, 1) := by decide +kernel
theorem dX12_told_72 : decode cX12_told 72 = .ok (.iaload, 1) := by decide +kernel
theorem dX12_told_73 : decode cX12_told 73 = .ok (.ireturn, 1) := by decide +kernel
theorem dX12_told_74 : decode cX12_told 74 = .ok (.aload_n 0, 1) := by decide +kernel
theorem dX12_told_75 : decode cX12_told 75 = .ok (.getfield 16, 3) := by decide +kernel
theorem dX12_told_78 : decode cX12_told 78 = .ok (.iload_n 1, 1) := by decide +kernel
theorem dX12_told_79 : decode cX12_told 79 = .ok (.iaload, 1) := by decide +kernel
theorem dX12_told_80 : decode cX12_told 80 = .ok (.ireturn, 1) := by decide +kernel
theorem dX12_told_81 : decode cX12_told 81 = .ok (.aload_n 0, 1) := by decide +kernel
theorem dX12_told_82 : decode cX12_told 82 = .ok (.iload_n 1, 1) := by decide +kernel
theorem dX12_told_83 : decode cX12_told 83 = .ok (.invokevirtual 170, 3) := by decide +kernel
theorem dX12_told_86 : decode cX12_told 86 = .ok (.ireturn, 1) := by decide +kernel
theorem dX12_told_87 : decode cX12_told 87 = .ok (.aload_n 0, 1) := by decide +kernel
theorem dX12_told_88 : decode cX12_told 88 = .ok (.getfield 22, 3) := by decide +kernel
theorem dX12_told_91 : decode cX12_told 91 = .ok (.iload_n 1, 1) := by decide +kernel
theorem dX12_told_92 : decode cX12_told 92 = .ok (.iaload, 1) := by decide +kernel
theorem dX12_told_93 : decode cX12_told 93 = .ok (.invokestatic 173, 3) := by decide +kernel
theorem dX12_told_96 : decode cX12_told 96 = .ok (.ireturn, 1) := by decide +kernel
theorem dX12_told_97 : decode cX12_told 97 = .ok (.aload_n 0, 1) := by decide +kernel
theorem dX12_told_98 : decode cX12_told 98 = .ok (.iload_n 1, 1) := by decide +kernel
theorem dX12_told_99 : decode cX12_told 99 = .ok (.invokevirtual 176, 3) := by decide +kernel
theorem dX12_told_102 : decode cX12_told 102 = .ok (.ireturn, 1) := by decide +kernel
theorem dX12_told_103 : decode cX12_told 103 = .ok (.aload_n 0, 1) := by decide +kernel
theorem dX12_told_104 : decode cX12_told 104 = .ok (.iload_n 1, 1) := by decide +kernel
theorem dX12_told_105 : decode cX12_told 105 = .ok (.invokevirtual 113, 3) := by decide +kernel
theorem dX12_told_108 : decode cX12_told 108 = .ok (.ireturn, 1) := by decide +kernel
theorem dX12_told_109 : decode cX12_told 109 = .ok (.aload_n 0, 1) := by decide +kernel
theorem dX12_told_110 : decode cX12_told 110 = .ok (.iload_n 1, 1) := by decide +kernel
theorem dX12_told_111 : decode cX12_told 111 = .ok (.invokevirtual 179, 3) := by decide +kernel
theorem dX12_told_114 : decode cX12_told 114 = .ok (.ireturn, 1) := by decide +kernel
theorem dX12_told_115 : decode cX12_told 115 = .ok (.iconst (-1), 1) := by decide +kernel
theorem dX12_told_116 : decode cX12_told 116 = .ok (.ireturn, 1) := by decide +kernel
theorem dX12_ahead_0 : decode cX12_ahead 0 = .ok (.aload_n 0, 1) := by decide +kernel
theorem dX12_ahead_1 : decode cX12_ahead 1 = .ok (.iload_n 1, 1) := by decide +kernel
theorem dX12_ahead_2 : decode cX12_ahead 2 = .ok (.invokevirtual 106, 3) := by decide +kernel
theorem dX12_ahead_5 : decode cX12_ahead 5 = .ok (.ifCond .eq 11, 3) := by decide +kernel
theorem dX12_ahead_8 : decode cX12_ahead 8 = .ok (.aload_n 0, 1) := by decide +kernel
theorem dX12_ahead_9 : decode cX12_ahead 9 = .ok (.iload_n 2, 1) := by decide +kernel
theorem dX12_ahead_10 : decode cX12_ahead 10 = .ok (.invokevirtual 106, 3) := by decide +kernel
theorem dX12_ahead_13 : decode cX12_ahead 13 = .ok (.ifCond .ne 5, 3) := by decide +kernel
theorem dX12_ahead_16 : decode cX12_ahead 16 = .ok (.iconst (-1), 1) := by decide +kernel
theorem dX12_ahead_17 : decode cX12_ahead 17 = .ok (.ireturn, 1) := by decide +kernel
theorem dX12_ahead_18 : decode cX12_ahead 18 = .ok (.aload_n 0, 1) := by decide +kernel
theorem dX12_ahead_19 : decode cX12_ahead 19 = .ok (.invokevirtual 110, 3) := by decide +kernel
theorem dX12_ahead_22 : decode cX12_ahead 22 = .ok (.aload_n 0, 1) := by decide +kernel
theorem dX12_ahead_23 : decode cX12_ahead 23 = .ok (.getfield 19, 3) := by decide +kernel
theorem dX12_ahead_26 : decode cX12_ahead 26 = .ok (.iload_n 2, 1) := by decide +kernel
theorem dX12_ahead_27 : decode cX12_ahead 27 = .ok (.iaload, 1) := by decide +kernel
theorem dX12_ahead_28 : decode cX12_ahead 28 = .ok (.iload_n 1, 1) := by decide +kernel
theorem dX12_ahead_29 : decode cX12_ahead 29 = .ok (.invokestatic 82, 3) := by decide +kernel
theorem dX12_ahead_32 : decode cX12_ahead 32 = .ok (.ifCond .eq 7, 3) := by decide +kernel
theorem dX12_ahead_35 : decode cX12_ahead 35 = .ok (.iconst 2, 1) := by decide +kernel
theorem dX12_ahead_36 : decode cX12_ahead 36 = .ok (.goto 21, 3) := by decide +kernel
theorem dX12_ahead_39 : decode cX12_ahead 39 = .ok (.aload_n 0, 1) := by decide +kernel
theorem dX12_ahead_40 : decode cX12_ahead 40 = .ok (.getfield 22, 3) := by decide +kernel
theorem dX12_ahead_43 : decode cX12_ahead 43 = .ok (.iload_n 2, 1) := by decide +kernel
theorem dX12_ahead_44 : decode cX12_ahead 44 = .ok (.iaload, 1) := by decide +kernel
theorem dX12_ahead_45 : decode cX12_ahead 45 = .ok (.iload_n 1, 1) := by decide +kernel
theorem dX12_ahead_46 : decode cX12_ahead 46 = .ok (.invokestatic 82, 3) := by decide +kernel
theorem dX12_ahead_49 : decode cX12_ahead 49 = .ok (.ifCond .eq 7, 3) := by decide +kernel
theorem dX12_ahead_52 : decode cX12_ahead 52 = .ok (.iconst 1, 1) := by decide +kernel
theorem dX12_ahead_53 : decode cX12_ahead 53 = .ok (.goto 4, 3) := by decide +kernel
theorem dX12_ahead_56 : decode cX12_ahead 56 = .ok (.iconst 0, 1) := by decide +kernel
theorem dX12_ahead_57 : decode cX12_ahead 57 = .ok (.ireturn, 1) := by decide +kernel
theorem dX12_beginnings_0 : decode cX12_beginnings 0 = .ok (.aload_n 0, 1) := by decide +kernel
theorem dX12_beginnings_1 : decode cX12_beginnings 1 = .ok (.invokevirtual 110, 3) := by decide +kernel
theorem dX12_beginnings_4 : decode cX12_beginnings 4 = .ok (.iconst 0, 1) := by decide +kernel
theorem dX12_beginnings_5 : decode cX12_beginnings 5 = .ok (.istore_n 1, 1) := by decide +kernel
theorem dX12_beginnings_6 : decode cX12_beginnings 6 = .ok (.iconst 0, 1) := by decide +kernel
theorem dX12_beginnings_7 : decode cX12_beginnings 7 = .ok (.istore_n 2, 1) := by decide +kernel
theorem dX12_beginnings_8 : decode cX12_beginnings 8 = .ok (.iload_n 2, 1) := by decide +kernel
theorem dX12_beginnings_9 : decode cX12_beginnings 9 = .ok (.aload_n 0, 1) := by decide +kernel
theorem dX12_beginnings_10 : decode cX12_beginnings 10 = .ok (.invokevirtual 134, 3) := by decide +kernel
theorem dX12_beginnings_13 : decode cX12_beginnings 13 = .ok (.if_icmp .gt 26, 3) := by decide +kernel
theorem dX12_beginnings_16 : decode cX12_beginnings 16 = .ok (.iload_n 1, 1) := by decide +kernel
theorem dX12_beginnings_17 : decode cX12_beginnings 17 = .ok (.aload_n 0, 1) := by decide +kernel
theorem dX12_beginnings_18 : decode cX12_beginnings 18 = .ok (.iload_n 2, 1) := by decide +kernel
theorem dX12_beginnings_19 : decode cX12_beginnings 19 = .ok (.iconst 0, 1) := by decide +kernel
theorem dX12_beginnings_20 : decode cX12_beginnings 20 = .ok (.invokevirtual 152, 3) := by decide +kernel
theorem dX12_beginnings_23 : decode cX12_beginnings 23 = .ok (.ifCond .eq 7, 3) := by decide +kernel
theorem dX12_beginnings_26 : decode cX12_beginnings 26 = .ok (.iconst 1, 1) := by decide +kernel
theorem dX12_beginnings_27 : decode cX12_beginnings 27 = .ok (.goto 4, 3) := by decide +kernel
theorem dX12_beginnings_30 : decode cX12_beginnings 30 = .ok (.iconst 0, 1) := by decide +kernel
theorem dX12_beginnings_31 : decode cX12_beginnings 31 = .ok (.iadd, 1) := by decide +kernel
theorem dX12_beginnings_32 : decode cX12_beginnings 32 = .ok (.istore_n 1, 1) := by decide +kernel
theorem dX12_beginnings_33 : decode cX12_beginnings 33 = .ok (.iinc 2 1, 3) := by decide +kernel
theorem dX12_beginnings_36 : decode cX12_beginnings 36 = .ok (.goto (-28), 3) := by decide +kernel
theorem dX12_beginnings_39 : decode cX12_beginnings 39 = .ok (.iload_n 1, 1) := by decide +kernel
theorem dX12_beginnings_40 : decode cX12_beginnings 40 = .ok (.ireturn, 1) := by decide +kernel
theorem dX12_pairs_0 : decode cX12_pairs 0 = .ok (.iconst 0, 1) := by decide +kernel
theorem dX12_pairs_1 : decode cX12_pairs 1 = .ok (.istore_n 1, 1) := by decide +kernel
theorem dX12_pairs_2 : decode cX12_pairs 2 = .ok (.iconst 0, 1) := by decide +kernel
theorem dX12_pairs_3 : decode cX12_pairs 3 = .ok (.istore_n 2, 1) := by decide +kernel
theorem dX12_pairs_4 : decode cX12_pairs 4 = .ok (.iload_n 2, 1) := by decide +kernel
theorem dX12_pairs_5 : decode cX12_pairs 5 = .ok (.aload_n 0, 1) := by decide +kernel
theorem dX12_pairs_6 : decode cX12_pairs 6 = .ok (.getfield 75, 3) := by decide +kernel
theorem dX12_pairs_9 : decode cX12_pairs 9 = .ok (.if_icmp .ge 21, 3) := by decide +kernel
theorem dX12_pairs_12 : decode cX12_pairs 12 = .ok (.iload_n 1, 1) := by decide +kernel
theorem dX12_pairs_13 : decode cX12_pairs 13 = .ok (.aload_n 0, 1) := by decide +kernel
theorem dX12_pairs_14 : decode cX12_pairs 14 = .ok (.getfield 19, 3) := by decide +kernel
theorem dX12_pairs_17 : decode cX12_pairs 17 = .ok (.iload_n 2, 1) := by decide +kernel
theorem dX12_pairs_18 : decode cX12_pairs 18 = .ok (.iaload, 1) := by decide +kernel
theorem dX12_pairs_19 : decode cX12_pairs 19 = .ok (.invokestatic 173, 3) := by decide +kernel
theorem dX12_pairs_22 : decode cX12_pairs 22 = .ok (.iadd, 1) := by decide +kernel
theorem dX12_pairs_23 : decode cX12_pairs 23 = .ok (.istore_n 1, 1) := by decide +kernel
theorem dX12_pairs_24 : decode cX12_pairs 24 = .ok (.iinc 2 1, 3) := by decide +kernel
theorem dX12_pairs_27 : decode cX12_pairs 27 = .ok (.goto (-23), 3) := by decide +kernel
theorem dX12_pairs_30 : decode cX12_pairs 30 = .ok (.iload_n 1, 1) := by decide +kernel
theorem dX12_pairs_31 : decode cX12_pairs 31 = .ok (.ireturn, 1) := by decide +kernel
theorem dX12_count_0 : decode cX12_count 0 = .ok (.iload_n 1, 1) := by decide +kernel
theorem dX12_count_1 : decode cX12_count 1 = .ok (.tableswitch 82 0 6 #[43, 48, 53, 58, 67, 72, 77], 43) := by decide +kernel
theorem dX12_count_44 : decode cX12_count 44 = .ok (.aload_n 0, 1) := by decide +kernel
theorem dX12_count_45 : decode cX12_count 45 = .ok (.getfield 75, 3) := by decide +kernel
theorem dX12_count_48 : decode cX12_count 48 = .ok (.ireturn, 1) := by decide +kernel
theorem dX12_count_49 : decode cX12_count 49 = .ok (.aload_n 0, 1) := by decide +kernel
theorem dX12_count_50 : decode cX12_count 50 = .ok (.invokevirtual 182, 3) := by decide +kernel
theorem dX12_count_53 : decode cX12_count 53 = .ok (.ireturn, 1) := by decide +kernel
theorem dX12_count_54 : decode cX12_count 54 = .ok (.aload_n 0, 1) := by decide +kernel
theorem dX12_count_55 : decode cX12_count 55 = .ok (.getfield 93, 3) := by decide +kernel
theorem dX12_count_58 : decode cX12_count 58 = .ok (.ireturn, 1) := by decide +kernel
theorem dX12_count_59 : decode cX12_count 59 = .ok (.aload_n 0, 1) := by decide +kernel
theorem dX12_count_60 : decode cX12_count 60 = .ok (.invokevirtual 167, 3) := by decide +kernel
theorem dX12_count_63 : decode cX12_count 63 = .ok (.aload_n 0, 1) := by decide +kernel
theorem dX12_count_64 : decode cX12_count 64 = .ok (.getfield 161, 3) := by decide +kernel
theorem dX12_count_67 : decode cX12_count 67 = .ok (.ireturn, 1) := by decide +kernel
theorem dX12_count_68 : decode cX12_count 68 = .ok (.aload_n 0, 1) := by decide +kernel
theorem dX12_count_69 : decode cX12_count 69 = .ok (.invokevirtual 185, 3) := by decide +kernel
theorem dX12_count_72 : decode cX12_count 72 = .ok (.ireturn, 1) := by decide +kernel
theorem dX12_count_73 : decode cX12_count 73 = .ok (.aload_n 0, 1) := by decide +kernel
theorem dX12_count_74 : decode cX12_count 74 = .ok (.getfield 188, 3) := by decide +kernel
theorem dX12_count_77 : decode cX12_count 77 = .ok (.ireturn, 1) := by decide +kernel
theorem dX12_count_78 : decode cX12_count 78 = .ok (.aload_n 0, 1) := by decide +kernel
theorem dX12_count_79 : decode cX12_count 79 = .ok (.getfield 86, 3) := by decide +kernel
theorem dX12_count_82 : decode cX12_count 82 = .ok (.ireturn, 1) := by decide +kernel
theorem dX12_count_83 : decode cX12_count 83 = .ok (.iconst (-1), 1) := by decide +kernel
theorem dX12_count_84 : decode cX12_count 84 = .ok (.ireturn, 1) := by decide +kernel
theorem dX12_apart_0 : decode cX12_apart 0 = .ok (.iload_n 1, 1) := by decide +kernel
theorem dX12_apart_1 : decode cX12_apart 1 = .ok (.iload_n 2, 1) := by decide +kernel
theorem dX12_apart_2 : decode cX12_apart 2 = .ok (.if_icmp .eq 33, 3) := by decide +kernel
theorem dX12_apart_5 : decode cX12_apart 5 = .ok (.aload_n 0, 1) := by decide +kernel
theorem dX12_apart_6 : decode cX12_apart 6 = .ok (.getfield 22, 3) := by decide +kernel
theorem dX12_apart_9 : decode cX12_apart 9 = .ok (.iload_n 1, 1) := by decide +kernel
theorem dX12_apart_10 : decode cX12_apart 10 = .ok (.iaload, 1) := by decide +kernel
theorem dX12_apart_11 : decode cX12_apart 11 = .ok (.iload_n 2, 1) := by decide +kernel
theorem dX12_apart_12 : decode cX12_apart 12 = .ok (.invokestatic 82, 3) := by decide +kernel
theorem dX12_apart_15 : decode cX12_apart 15 = .ok (.ifCond .ne 20, 3) := by decide +kernel
theorem dX12_apart_18 : decode cX12_apart 18 = .ok (.aload_n 0, 1) := by decide +kernel
theorem dX12_apart_19 : decode cX12_apart 19 = .ok (.getfield 22, 3) := by decide +kernel
theorem dX12_apart_22 : decode cX12_apart 22 = .ok (.iload_n 2, 1) := by decide +kernel
theorem dX12_apart_23 : decode cX12_apart 23 = .ok (.iaload, 1) := by decide +kernel
theorem dX12_apart_24 : decode cX12_apart 24 = .ok (.iload_n 1, 1) := by decide +kernel
theorem dX12_apart_25 : decode cX12_apart 25 = .ok (.invokestatic 82, 3) := by decide +kernel
theorem dX12_apart_28 : decode cX12_apart 28 = .ok (.ifCond .ne 7, 3) := by decide +kernel
theorem dX12_apart_31 : decode cX12_apart 31 = .ok (.iconst 1, 1) := by decide +kernel
theorem dX12_apart_32 : decode cX12_apart 32 = .ok (.goto 4, 3) := by decide +kernel
theorem dX12_apart_35 : decode cX12_apart 35 = .ok (.iconst 0, 1) := by decide +kernel
theorem dX12_apart_36 : decode cX12_apart 36 = .ok (.ireturn, 1) := by decide +kernel
theorem dX12_four_0 : decode cX12_four 0 = .ok (.aload_n 0, 1) := by decide +kernel
theorem dX12_four_1 : decode cX12_four 1 = .ok (.invokevirtual 110, 3) := by decide +kernel
theorem dX12_four_4 : decode cX12_four 4 = .ok (.iconst 0, 1) := by decide +kernel
theorem dX12_four_5 : decode cX12_four 5 = .ok (.istore_n 1, 1) := by decide +kernel
theorem dX12_four_6 : decode cX12_four 6 = .ok (.iload_n 1, 1) := by decide +kernel
theorem dX12_four_7 : decode cX12_four 7 = .ok (.aload_n 0, 1) := by decide +kernel
theorem dX12_four_8 : decode cX12_four 8 = .ok (.getfield 75, 3) := by decide +kernel
theorem dX12_four_11 : decode cX12_four 11 = .ok (.if_icmp .ge 157, 3) := by decide +kernel
theorem dX12_four_14 : decode cX12_four 14 = .ok (.iconst 0, 1) := by decide +kernel
theorem dX12_four_15 : decode cX12_four 15 = .ok (.istore_n 2, 1) := by decide +kernel
theorem dX12_four_16 : decode cX12_four 16 = .ok (.iload_n 2, 1) := by decide +kernel
theorem dX12_four_17 : decode cX12_four 17 = .ok (.aload_n 0, 1) := by decide +kernel
theorem dX12_four_18 : decode cX12_four 18 = .ok (.getfield 75, 3) := by decide +kernel
theorem dX12_four_21 : decode cX12_four 21 = .ok (.if_icmp .ge 141, 3) := by decide +kernel
theorem dX12_four_24 : decode cX12_four 24 = .ok (.iconst 0, 1) := by decide +kernel
theorem dX12_four_25 : decode cX12_four 25 = .ok (.istore_n 3, 1) := by decide +kernel
theorem dX12_four_26 : decode cX12_four 26 = .ok (.iload_n 3, 1) := by decide +kernel
theorem dX12_four_27 : decode cX12_four 27 = .ok (.aload_n 0, 1) := by decide +kernel
theorem dX12_four_28 : decode cX12_four 28 = .ok (.getfield 75, 3) := by decide +kernel
theorem dX12_four_31 : decode cX12_four 31 = .ok (.if_icmp .ge 125, 3) := by decide +kernel
theorem dX12_four_34 : decode cX12_four 34 = .ok (.iconst 0, 1) := by decide +kernel
theorem dX12_four_35 : decode cX12_four 35 = .ok (.istore 4, 2) := by decide +kernel
theorem dX12_four_37 : decode cX12_four 37 = .ok (.iload 4, 2) := by decide +kernel
theorem dX12_four_39 : decode cX12_four 39 = .ok (.aload_n 0, 1) := by decide +kernel
theorem dX12_four_40 : decode cX12_four 40 = .ok (.getfield 75, 3) := by decide +kernel
theorem dX12_four_43 : decode cX12_four 43 = .ok (.if_icmp .ge 107, 3) := by decide +kernel
theorem dX12_four_46 : decode cX12_four 46 = .ok (.aload_n 0, 1) := by decide +kernel
theorem dX12_four_47 : decode cX12_four 47 = .ok (.getfield 22, 3) := by decide +kernel
theorem dX12_four_50 : decode cX12_four 50 = .ok (.iload_n 3, 1) := by decide +kernel
theorem dX12_four_51 : decode cX12_four 51 = .ok (.iaload, 1) := by decide +kernel
theorem dX12_four_52 : decode cX12_four 52 = .ok (.iload_n 1, 1) := by decide +kernel
theorem dX12_four_53 : decode cX12_four 53 = .ok (.invokestatic 82, 3) := by decide +kernel
theorem dX12_four_56 : decode cX12_four 56 = .ok (.ifCond .eq 63, 3) := by decide +kernel
theorem dX12_four_59 : decode cX12_four 59 = .ok (.aload_n 0, 1) := by decide +kernel
theorem dX12_four_60 : decode cX12_four 60 = .ok (.getfield 22, 3) := by decide +kernel
theorem dX12_four_63 : decode cX12_four 63 = .ok (.iload_n 3, 1) := by decide +kernel
theorem dX12_four_64 : decode cX12_four 64 = .ok (.iaload, 1) := by decide +kernel
theorem dX12_four_65 : decode cX12_four 65 = .ok (.iload_n 2, 1) := by decide +kernel
theorem dX12_four_66 : decode cX12_four 66 = .ok (.invokestatic 82, 3) := by decide +kernel
theorem dX12_four_69 : decode cX12_four 69 = .ok (.ifCond .eq 50, 3) := by decide +kernel
theorem dX12_four_72 : decode cX12_four 72 = .ok (.aload_n 0, 1) := by decide +kernel
theorem dX12_four_73 : decode cX12_four 73 = .ok (.getfield 22, 3) := by decide +kernel
theorem dX12_four_76 : decode cX12_four 76 = .ok (.iload 4, 2) := by decide +kernel
theorem dX12_four_78 : decode cX12_four 78 = .ok (.iaload, 1) := by decide +kernel
theorem dX12_four_79 : decode cX12_four 79 = .ok (.iload_n 2, 1) := by decide +kernel
theorem dX12_four_80 : decode cX12_four 80 = .ok (.invokestatic 82, 3) := by decide +kernel
theorem dX12_four_83 : decode cX12_four 83 = .ok (.ifCond .eq 36, 3) := by decide +kernel
theorem dX12_four_86 : decode cX12_four 86 = .ok (.aload_n 0, 1) := by decide +kernel
theorem dX12_four_87 : decode cX12_four 87 = .ok (.iload_n 1, 1) := by decide +kernel
theorem dX12_four_88 : decode cX12_four 88 = .ok (.iload_n 2, 1) := by decide +kernel
theorem dX12_four_89 : decode cX12_four 89 = .ok (.invokevirtual 191, 3) := by decide +kernel
theorem dX12_four_92 : decode cX12_four 92 = .ok (.ifCond .eq 27, 3) := by decide +kernel
theorem dX12_four_95 : decode cX12_four 95 = .ok (.aload_n 0, 1) := by decide +kernel
theorem dX12_four_96 : decode cX12_four 96 = .ok (.iload_n 1, 1) := by decide +kernel
theorem dX12_four_97 : decode cX12_four 97 = .ok (.iload 4, 2) := by decide +kernel
theorem dX12_four_99 : decode cX12_four 99 = .ok (.invokevirtual 191, 3) := by decide +kernel
theorem dX12_four_102 : decode cX12_four 102 = .ok (.ifCond .eq 17, 3) := by decide +kernel
theorem dX12_four_105 : decode cX12_four 105 = .ok (.aload_n 0, 1) := by decide +kernel
theorem dX12_four_106 : decode cX12_four 106 = .ok (.iload_n 3, 1) := by decide +kernel
theorem dX12_four_107 : decode cX12_four 107 = .ok (.iload 4, 2) := by decide +kernel
theorem dX12_four_109 : decode cX12_four 109 = .ok (.invokevirtual 191, 3) := by decide +kernel
theorem dX12_four_112 : decode cX12_four 112 = .ok (.ifCond .eq 7, 3) := by decide +kernel
theorem dX12_four_115 : decode cX12_four 115 = .ok (.iconst 1, 1) := by decide +kernel
theorem dX12_four_116 : decode cX12_four 116 = .ok (.goto 4, 3) := by decide +kernel
theorem dX12_four_119 : decode cX12_four 119 = .ok (.iconst 0, 1) := by decide +kernel
theorem dX12_four_120 : decode cX12_four 120 = .ok (.istore 5, 2) := by decide +kernel
theorem dX12_four_122 : decode cX12_four 122 = .ok (.iload 5, 2) := by decide +kernel
theorem dX12_four_124 : decode cX12_four 124 = .ok (.ifCond .eq 20, 3) := by decide +kernel
theorem dX12_four_127 : decode cX12_four 127 = .ok (.iload_n 1, 1) := by decide +kernel
theorem dX12_four_128 : decode cX12_four 128 = .ok (.iload_n 2, 1) := by decide +kernel
theorem dX12_four_129 : decode cX12_four 129 = .ok (.iconst 4, 1) := by decide +kernel
theorem dX12_four_130 : decode cX12_four 130 = .ok (.ishl, 1) := by decide +kernel
theorem dX12_four_131 : decode cX12_four 131 = .ok (.ior, 1) := by decide +kernel
theorem dX12_four_132 : decode cX12_four 132 = .ok (.iload_n 3, 1) := by decide +kernel
theorem dX12_four_133 : decode cX12_four 133 = .ok (.bipush 8, 2) := by decide +kernel
theorem dX12_four_135 : decode cX12_four 135 = .ok (.ishl, 1) := by decide +kernel
theorem dX12_four_136 : decode cX12_four 136 = .ok (.ior, 1) := by decide +kernel
theorem dX12_four_137 : decode cX12_four 137 = .ok (.iload 4, 2) := by decide +kernel
theorem dX12_four_139 : decode cX12_four 139 = .ok (.bipush 12, 2) := by decide +kernel
theorem dX12_four_141 : decode cX12_four 141 = .ok (.ishl, 1) := by decide +kernel
theorem dX12_four_142 : decode cX12_four 142 = .ok (.ior, 1) := by decide +kernel
theorem dX12_four_143 : decode cX12_four 143 = .ok (.ireturn, 1) := by decide +kernel
theorem dX12_four_144 : decode cX12_four 144 = .ok (.iinc 4 1, 3) := by decide +kernel
theorem dX12_four_147 : decode cX12_four 147 = .ok (.goto (-110), 3) := by decide +kernel
theorem dX12_four_150 : decode cX12_four 150 = .ok (.iinc 3 1, 3) := by decide +kernel
theorem dX12_four_153 : decode cX12_four 153 = .ok (.goto (-127), 3) := by decide +kernel
theorem dX12_four_156 : decode cX12_four 156 = .ok (.iinc 2 1, 3) := by decide +kernel
theorem dX12_four_159 : decode cX12_four 159 = .ok (.goto (-143), 3) := by decide +kernel
theorem dX12_four_162 : decode cX12_four 162 = .ok (.iinc 1 1, 3) := by decide +kernel
theorem dX12_four_165 : decode cX12_four 165 = .ok (.goto (-159), 3) := by decide +kernel
theorem dX12_four_168 : decode cX12_four 168 = .ok (.iconst (-1), 1) := by decide +kernel
theorem dX12_four_169 : decode cX12_four 169 = .ok (.ireturn, 1) := by decide +kernel
theorem dX12_series_0 : decode cX12_series 0 = .ok (.aload_n 0, 1) := by decide +kernel
theorem dX12_series_1 : decode cX12_series 1 = .ok (.invokevirtual 194, 3) := by decide +kernel
theorem dX12_series_4 : decode cX12_series 4 = .ok (.iconst (-1), 1) := by decide +kernel
theorem dX12_series_5 : decode cX12_series 5 = .ok (.if_icmp .ne 7, 3) := by decide +kernel
theorem dX12_series_8 : decode cX12_series 8 = .ok (.iconst 1, 1) := by decide +kernel
theorem dX12_series_9 : decode cX12_series 9 = .ok (.goto 4, 3) := by decide +kernel
theorem dX12_series_12 : decode cX12_series 12 = .ok (.iconst 0, 1) := by decide +kernel
theorem dX12_series_13 : decode cX12_series 13 = .ok (.ireturn, 1) := by decide +kernel
theorem dX12_shows_0 : decode cX12_shows 0 = .ok (.aload_n 0, 1) := by decide +kernel
theorem dX12_shows_1 : decode cX12_shows 1 = .ok (.invokevirtual 194, 3) := by decide +kernel
theorem dX12_shows_4 : decode cX12_shows 4 = .ok (.istore_n 2, 1) := by decide +kernel
theorem dX12_shows_5 : decode cX12_shows 5 = .ok (.iload_n 2, 1) := by decide +kernel
theorem dX12_shows_6 : decode cX12_shows 6 = .ok (.iconst (-1), 1) := by decide +kernel
theorem dX12_shows_7 : decode cX12_shows 7 = .ok (.if_icmp .eq 12, 3) := by decide +kernel
theorem dX12_shows_10 : decode cX12_shows 10 = .ok (.iload_n 1, 1) := by decide +kernel
theorem dX12_shows_11 : decode cX12_shows 11 = .ok (.iconst 0, 1) := by decide +kernel
theorem dX12_shows_12 : decode cX12_shows 12 = .ok (.iconst 3, 1) := by decide +kernel
theorem dX12_shows_13 : decode cX12_shows 13 = .ok (.invokestatic 78, 3) := by decide +kernel
theorem dX12_shows_16 : decode cX12_shows 16 = .ok (.ifCond .ne 7, 3) := by decide +kernel
theorem dX12_shows_19 : decode cX12_shows 19 = .ok (.iconst (-1), 1) := by decide +kernel
theorem dX12_shows_20 : decode cX12_shows 20 = .ok (.goto 11, 3) := by decide +kernel
theorem dX12_shows_23 : decode cX12_shows 23 = .ok (.iload_n 2, 1) := by decide +kernel
theorem dX12_shows_24 : decode cX12_shows 24 = .ok (.iconst 4, 1) := by decide +kernel
theorem dX12_shows_25 : decode cX12_shows 25 = .ok (.iload_n 1, 1) := by decide +kernel
theorem dX12_shows_26 : decode cX12_shows 26 = .ok (.imul, 1) := by decide +kernel
theorem dX12_shows_27 : decode cX12_shows 27 = .ok (.ishr, 1) := by decide +kernel
theorem dX12_shows_28 : decode cX12_shows 28 = .ok (.bipush 15, 2) := by decide +kernel
theorem dX12_shows_30 : decode cX12_shows 30 = .ok (.iand, 1) := by decide +kernel
theorem dX12_shows_31 : decode cX12_shows 31 = .ok (.ireturn, 1) := by decide +kernel
theorem dX12_ran_0 : decode cX12_ran 0 = .ok (.aload_n 0, 1) := by decide +kernel
theorem dX12_ran_1 : decode cX12_ran 1 = .ok (.getfield 188, 3) := by decide +kernel
theorem dX12_ran_4 : decode cX12_ran 4 = .ok (.bipush 50, 2) := by decide +kernel
theorem dX12_ran_6 : decode cX12_ran 6 = .ok (.if_icmp .ge 13, 3) := by decide +kernel
theorem dX12_ran_9 : decode cX12_ran 9 = .ok (.aload_n 0, 1) := by decide +kernel
theorem dX12_ran_10 : decode cX12_ran 10 = .ok (.getfield 44, 3) := by decide +kernel
theorem dX12_ran_13 : decode cX12_ran 13 = .ok (.aload_n 0, 1) := by decide +kernel
theorem dX12_ran_14 : decode cX12_ran 14 = .ok (.getfield 188, 3) := by decide +kernel
theorem dX12_ran_17 : decode cX12_ran 17 = .ok (.iload_n 1, 1) := by decide +kernel
theorem dX12_ran_18 : decode cX12_ran 18 = .ok (.iastore, 1) := by decide +kernel
theorem dX12_ran_19 : decode cX12_ran 19 = .ok (.aload_n 0, 1) := by decide +kernel
theorem dX12_ran_20 : decode cX12_ran 20 = .ok (.dup, 1) := by decide +kernel
theorem dX12_ran_21 : decode cX12_ran 21 = .ok (.getfield 188, 3) := by decide +kernel
theorem dX12_ran_24 : decode cX12_ran 24 = .ok (.iconst 1, 1) := by decide +kernel
theorem dX12_ran_25 : decode cX12_ran 25 = .ok (.iadd, 1) := by decide +kernel
theorem dX12_ran_26 : decode cX12_ran 26 = .ok (.putfield 188, 3) := by decide +kernel
theorem dX12_ran_29 : decode cX12_ran 29 = .ok (.return_, 1) := by decide +kernel
theorem dX12_jobLast_0 : decode cX12_jobLast 0 = .ok (.aload_n 0, 1) := by decide +kernel
theorem dX12_jobLast_1 : decode cX12_jobLast 1 = .ok (.bipush 10, 2) := by decide +kernel
theorem dX12_jobLast_3 : decode cX12_jobLast 3 = .ok (.invokevirtual 197, 3) := by decide +kernel
theorem dX12_jobLast_6 : decode cX12_jobLast 6 = .ok (.iload_n 2, 1) := by decide +kernel
theorem dX12_jobLast_7 : decode cX12_jobLast 7 = .ok (.aload_n 0, 1) := by decide +kernel
theorem dX12_jobLast_8 : decode cX12_jobLast 8 = .ok (.getfield 7, 3) := by decide +kernel
theorem dX12_jobLast_11 : decode cX12_jobLast 11 = .ok (.iload_n 1, 1) := by decide +kernel
theorem dX12_jobLast_12 : decode cX12_jobLast 12 = .ok (.iaload, 1) := by decide +kernel
theorem dX12_jobLast_13 : decode cX12_jobLast 13 = .ok (.iadd, 1) := by decide +kernel
theorem dX12_jobLast_14 : decode cX12_jobLast 14 = .ok (.ireturn, 1) := by decide +kernel
theorem dX12_unitLast_0 : decode cX12_unitLast 0 = .ok (.aload_n 0, 1) := by decide +kernel
theorem dX12_unitLast_1 : decode cX12_unitLast 1 = .ok (.bipush 20, 2) := by decide +kernel
theorem dX12_unitLast_3 : decode cX12_unitLast 3 = .ok (.invokevirtual 197, 3) := by decide +kernel
theorem dX12_unitLast_6 : decode cX12_unitLast 6 = .ok (.aload_n 0, 1) := by decide +kernel
theorem dX12_unitLast_7 : decode cX12_unitLast 7 = .ok (.iload_n 1, 1) := by decide +kernel
theorem dX12_unitLast_8 : decode cX12_unitLast 8 = .ok (.iload_n 2, 1) := by decide +kernel
theorem dX12_unitLast_9 : decode cX12_unitLast 9 = .ok (.invokevirtual 200, 3) := by decide +kernel
theorem dX12_unitLast_12 : decode cX12_unitLast 12 = .ok (.iconst 2, 1) := by decide +kernel
theorem dX12_unitLast_13 : decode cX12_unitLast 13 = .ok (.imul, 1) := by decide +kernel
theorem dX12_unitLast_14 : decode cX12_unitLast 14 = .ok (.ireturn, 1) := by decide +kernel
theorem dX12_jobFollow_0 : decode cX12_jobFollow 0 = .ok (.aload_n 0, 1) := by decide +kernel
theorem dX12_jobFollow_1 : decode cX12_jobFollow 1 = .ok (.bipush 12, 2) := by decide +kernel
theorem dX12_jobFollow_3 : decode cX12_jobFollow 3 = .ok (.invokevirtual 197, 3) := by decide +kernel
theorem dX12_jobFollow_6 : decode cX12_jobFollow 6 = .ok (.iload_n 2, 1) := by decide +kernel
theorem dX12_jobFollow_7 : decode cX12_jobFollow 7 = .ok (.aload_n 0, 1) := by decide +kernel
theorem dX12_jobFollow_8 : decode cX12_jobFollow 8 = .ok (.getfield 22, 3) := by decide +kernel
theorem dX12_jobFollow_11 : decode cX12_jobFollow 11 = .ok (.iload_n 1, 1) := by decide +kernel
theorem dX12_jobFollow_12 : decode cX12_jobFollow 12 = .ok (.iaload, 1) := by decide +kernel
theorem dX12_jobFollow_13 : decode cX12_jobFollow 13 = .ok (.invokestatic 173, 3) := by decide +kernel
theorem dX12_jobFollow_16 : decode cX12_jobFollow 16 = .ok (.iadd, 1) := by decide +kernel
theorem dX12_jobFollow_17 : decode cX12_jobFollow 17 = .ok (.ireturn, 1) := by decide +kernel
theorem dX12_last_0 : decode cX12_last 0 = .ok (.iload_n 2, 1) := by decide +kernel
theorem dX12_last_1 : decode cX12_last 1 = .ok (.tableswitch 82 1 4 #[31, 82, 38, 62], 31) := by decide +kernel
theorem dX12_last_32 : decode cX12_last 32 = .ok (.aload_n 0, 1) := by decide +kernel
theorem dX12_last_33 : decode cX12_last 33 = .ok (.iload_n 1, 1) := by decide +kernel
theorem dX12_last_34 : decode cX12_last 34 = .ok (.iload_n 3, 1) := by decide +kernel
theorem dX12_last_35 : decode cX12_last 35 = .ok (.invokevirtual 203, 3) := by decide +kernel
theorem dX12_last_38 : decode cX12_last 38 = .ok (.ireturn, 1) := by decide +kernel
theorem dX12_last_39 : decode cX12_last 39 = .ok (.aload_n 0, 1) := by decide +kernel
theorem dX12_last_40 : decode cX12_last 40 = .ok (.bipush 41, 2) := by decide +kernel
theorem dX12_last_42 : decode cX12_last 42 = .ok (.invokevirtual 197, 3) := by decide +kernel
theorem dX12_last_45 : decode cX12_last 45 = .ok (.aload_n 0, 1) := by decide +kernel
theorem dX12_last_46 : decode cX12_last 46 = .ok (.iload_n 1, 1) := by decide +kernel
theorem dX12_last_47 : decode cX12_last 47 = .ok (.iload_n 3, 1) := by decide +kernel
theorem dX12_last_48 : decode cX12_last 48 = .ok (.invokevirtual 203, 3) := by decide +kernel
theorem dX12_last_51 : decode cX12_last 51 = .ok (.istore 4, 2) := by decide +kernel
theorem dX12_last_53 : decode cX12_last 53 = .ok (.iload 4, 2) := by decide +kernel
theorem dX12_last_55 : decode cX12_last 55 = .ok (.aload_n 0, 1) := by decide +kernel
theorem dX12_last_56 : decode cX12_last 56 = .ok (.iload_n 1, 1) := by decide +kernel
theorem dX12_last_57 : decode cX12_last 57 = .ok (.iload_n 3, 1) := by decide +kernel
theorem dX12_last_58 : decode cX12_last 58 = .ok (.invokevirtual 206, 3) := by decide +kernel
theorem dX12_last_61 : decode cX12_last 61 = .ok (.iadd, 1) := by decide +kernel
theorem dX12_last_62 : decode cX12_last 62 = .ok (.ireturn, 1) := by decide +kernel
theorem dX12_last_63 : decode cX12_last 63 = .ok (.aload_n 0, 1) := by decide +kernel
theorem dX12_last_64 : decode cX12_last 64 = .ok (.bipush 50, 2) := by decide +kernel
theorem dX12_last_66 : decode cX12_last 66 = .ok (.invokevirtual 197, 3) := by decide +kernel
theorem dX12_last_69 : decode cX12_last 69 = .ok (.aload_n 0, 1) := by decide +kernel
theorem dX12_last_70 : decode cX12_last 70 = .ok (.iload_n 1, 1) := by decide +kernel
theorem dX12_last_71 : decode cX12_last 71 = .ok (.iload_n 3, 1) := by decide +kernel
theorem dX12_last_72 : decode cX12_last 72 = .ok (.aload_n 0, 1) := by decide +kernel
theorem dX12_last_73 : decode cX12_last 73 = .ok (.getfield 16, 3) := by decide +kernel
theorem dX12_last_76 : decode cX12_last 76 = .ok (.iload_n 1, 1) := by decide +kernel
theorem dX12_last_77 : decode cX12_last 77 = .ok (.iaload, 1) := by decide +kernel
theorem dX12_last_78 : decode cX12_last 78 = .ok (.iadd, 1) := by decide +kernel
theorem dX12_last_79 : decode cX12_last 79 = .ok (.invokevirtual 200, 3) := by decide +kernel
theorem dX12_last_82 : decode cX12_last 82 = .ok (.ireturn, 1) := by decide +kernel
theorem dX12_last_83 : decode cX12_last 83 = .ok (.aload_n 0, 1) := by decide +kernel
theorem dX12_last_84 : decode cX12_last 84 = .ok (.iload_n 1, 1) := by decide +kernel
theorem dX12_last_85 : decode cX12_last 85 = .ok (.iload_n 3, 1) := by decide +kernel
theorem dX12_last_86 : decode cX12_last 86 = .ok (.invokevirtual 200, 3) := by decide +kernel
theorem dX12_last_89 : decode cX12_last 89 = .ok (.ireturn, 1) := by decide +kernel
theorem dX12_weigh_0 : decode cX12_weigh 0 = .ok (.iload_n 2, 1) := by decide +kernel
theorem dX12_weigh_1 : decode cX12_weigh 1 = .ok (.iconst 2, 1) := by decide +kernel
theorem dX12_weigh_2 : decode cX12_weigh 2 = .ok (.if_icmp .ne 9, 3) := by decide +kernel
theorem dX12_weigh_5 : decode cX12_weigh 5 = .ok (.aload_n 0, 1) := by decide +kernel
theorem dX12_weigh_6 : decode cX12_weigh 6 = .ok (.bipush 30, 2) := by decide +kernel
theorem dX12_weigh_8 : decode cX12_weigh 8 = .ok (.invokevirtual 197, 3) := by decide +kernel
theorem dX12_weigh_11 : decode cX12_weigh 11 = .ok (.aload_n 0, 1) := by decide +kernel
theorem dX12_weigh_12 : decode cX12_weigh 12 = .ok (.bipush 11, 2) := by decide +kernel
theorem dX12_weigh_14 : decode cX12_weigh 14 = .ok (.invokevirtual 197, 3) := by decide +kernel
theorem dX12_weigh_17 : decode cX12_weigh 17 = .ok (.aload_n 0, 1) := by decide +kernel
theorem dX12_weigh_18 : decode cX12_weigh 18 = .ok (.iload_n 1, 1) := by decide +kernel
theorem dX12_weigh_19 : decode cX12_weigh 19 = .ok (.iload_n 2, 1) := by decide +kernel
theorem dX12_weigh_20 : decode cX12_weigh 20 = .ok (.iload_n 3, 1) := by decide +kernel
theorem dX12_weigh_21 : decode cX12_weigh 21 = .ok (.invokevirtual 209, 3) := by decide +kernel
theorem dX12_weigh_24 : decode cX12_weigh 24 = .ok (.aload_n 0, 1) := by decide +kernel
theorem dX12_weigh_25 : decode cX12_weigh 25 = .ok (.getfield 13, 3) := by decide +kernel
theorem dX12_weigh_28 : decode cX12_weigh 28 = .ok (.iload_n 1, 1) := by decide +kernel
theorem dX12_weigh_29 : decode cX12_weigh 29 = .ok (.iaload, 1) := by decide +kernel
theorem dX12_weigh_30 : decode cX12_weigh 30 = .ok (.imul, 1) := by decide +kernel
theorem dX12_weigh_31 : decode cX12_weigh 31 = .ok (.istore 4, 2) := by decide +kernel
theorem dX12_weigh_33 : decode cX12_weigh 33 = .ok (.iload_n 2, 1) := by decide +kernel
theorem dX12_weigh_34 : decode cX12_weigh 34 = .ok (.iconst 2, 1) := by decide +kernel
theorem dX12_weigh_35 : decode cX12_weigh 35 = .ok (.if_icmp .ne 15, 3) := by decide +kernel
theorem dX12_weigh_38 : decode cX12_weigh 38 = .ok (.iload 4, 2) := by decide +kernel
theorem dX12_weigh_40 : decode cX12_weigh 40 = .ok (.aload_n 0, 1) := by decide +kernel
theorem dX12_weigh_41 : decode cX12_weigh 41 = .ok (.getfield 7, 3) := by decide +kernel
theorem dX12_weigh_44 : decode cX12_weigh 44 = .ok (.iload_n 1, 1) := by decide +kernel
theorem dX12_weigh_45 : decode cX12_weigh 45 = .ok (.iaload, 1) := by decide +kernel
theorem dX12_weigh_46 : decode cX12_weigh 46 = .ok (.iadd, 1) := by decide +kernel
theorem dX12_weigh_47 : decode cX12_weigh 47 = .ok (.goto 5, 3) := by decide +kernel
theorem dX12_weigh_50 : decode cX12_weigh 50 = .ok (.iload 4, 2) := by decide +kernel
theorem dX12_weigh_52 : decode cX12_weigh 52 = .ok (.ireturn, 1) := by decide +kernel
theorem dX12_follow_0 : decode cX12_follow 0 = .ok (.iload_n 2, 1) := by decide +kernel
theorem dX12_follow_1 : decode cX12_follow 1 = .ok (.iconst 3, 1) := by decide +kernel
theorem dX12_follow_2 : decode cX12_follow 2 = .ok (.if_icmp .ne 19, 3) := by decide +kernel
theorem dX12_follow_5 : decode cX12_follow 5 = .ok (.aload_n 0, 1) := by decide +kernel
theorem dX12_follow_6 : decode cX12_follow 6 = .ok (.bipush 40, 2) := by decide +kernel
theorem dX12_follow_8 : decode cX12_follow 8 = .ok (.invokevirtual 197, 3) := by decide +kernel
theorem dX12_follow_11 : decode cX12_follow 11 = .ok (.aload_n 0, 1) := by decide +kernel
theorem dX12_follow_12 : decode cX12_follow 12 = .ok (.iload_n 1, 1) := by decide +kernel
theorem dX12_follow_13 : decode cX12_follow 13 = .ok (.iload_n 3, 1) := by decide +kernel
theorem dX12_follow_14 : decode cX12_follow 14 = .ok (.invokevirtual 206, 3) := by decide +kernel
theorem dX12_follow_17 : decode cX12_follow 17 = .ok (.bipush 7, 2) := by decide +kernel
theorem dX12_follow_19 : decode cX12_follow 19 = .ok (.isub, 1) := by decide +kernel
theorem dX12_follow_20 : decode cX12_follow 20 = .ok (.ireturn, 1) := by decide +kernel
theorem dX12_follow_21 : decode cX12_follow 21 = .ok (.aload_n 0, 1) := by decide +kernel
theorem dX12_follow_22 : decode cX12_follow 22 = .ok (.iload_n 1, 1) := by decide +kernel
theorem dX12_follow_23 : decode cX12_follow 23 = .ok (.iload_n 3, 1) := by decide +kernel
theorem dX12_follow_24 : decode cX12_follow 24 = .ok (.invokevirtual 206, 3) := by decide +kernel
theorem dX12_follow_27 : decode cX12_follow 27 = .ok (.ireturn, 1) := by decide +kernel
theorem dX12_jobTell_0 : decode cX12_jobTell 0 = .ok (.aload_n 0, 1) := by decide +kernel
theorem dX12_jobTell_1 : decode cX12_jobTell 1 = .ok (.bipush 13, 2) := by decide +kernel
theorem dX12_jobTell_3 : decode cX12_jobTell 3 = .ok (.invokevirtual 197, 3) := by decide +kernel
theorem dX12_jobTell_6 : decode cX12_jobTell 6 = .ok (.aload_n 0, 1) := by decide +kernel
theorem dX12_jobTell_7 : decode cX12_jobTell 7 = .ok (.iload_n 1, 1) := by decide +kernel
theorem dX12_jobTell_8 : decode cX12_jobTell 8 = .ok (.iload_n 2, 1) := by decide +kernel
theorem dX12_jobTell_9 : decode cX12_jobTell 9 = .ok (.iload_n 3, 1) := by decide +kernel
theorem dX12_jobTell_10 : decode cX12_jobTell 10 = .ok (.invokevirtual 213, 3) := by decide +kernel
theorem dX12_jobTell_13 : decode cX12_jobTell 13 = .ok (.istore 4, 2) := by decide +kernel
theorem dX12_jobTell_15 : decode cX12_jobTell 15 = .ok (.iload 4, 2) := by decide +kernel
theorem dX12_jobTell_17 : decode cX12_jobTell 17 = .ok (.aload_n 0, 1) := by decide +kernel
theorem dX12_jobTell_18 : decode cX12_jobTell 18 = .ok (.iload_n 1, 1) := by decide +kernel
theorem dX12_jobTell_19 : decode cX12_jobTell 19 = .ok (.iload_n 2, 1) := by decide +kernel
theorem dX12_jobTell_20 : decode cX12_jobTell 20 = .ok (.iload_n 3, 1) := by decide +kernel
theorem dX12_jobTell_21 : decode cX12_jobTell 21 = .ok (.invokevirtual 216, 3) := by decide +kernel
theorem dX12_jobTell_24 : decode cX12_jobTell 24 = .ok (.isub, 1) := by decide +kernel
theorem dX12_jobTell_25 : decode cX12_jobTell 25 = .ok (.ireturn, 1) := by decide +kernel
theorem dX12_tell_0 : decode cX12_tell 0 = .ok (.iload_n 2, 1) := by decide +kernel
theorem dX12_tell_1 : decode cX12_tell 1 = .ok (.tableswitch 75 1 4 #[31, 75, 31, 49], 31) := by decide +kernel
theorem dX12_tell_32 : decode cX12_tell 32 = .ok (.aload_n 0, 1) := by decide +kernel
theorem dX12_tell_33 : decode cX12_tell 33 = .ok (.bipush 21, 2) := by decide +kernel
theorem dX12_tell_35 : decode cX12_tell 35 = .ok (.invokevirtual 197, 3) := by decide +kernel
theorem dX12_tell_38 : decode cX12_tell 38 = .ok (.aload_n 0, 1) := by decide +kernel
theorem dX12_tell_39 : decode cX12_tell 39 = .ok (.iload_n 1, 1) := by decide +kernel
theorem dX12_tell_40 : decode cX12_tell 40 = .ok (.iload_n 2, 1) := by decide +kernel
theorem dX12_tell_41 : decode cX12_tell 41 = .ok (.iload_n 3, 1) := by decide +kernel
theorem dX12_tell_42 : decode cX12_tell 42 = .ok (.iconst 1, 1) := by decide +kernel
theorem dX12_tell_43 : decode cX12_tell 43 = .ok (.iadd, 1) := by decide +kernel
theorem dX12_tell_44 : decode cX12_tell 44 = .ok (.invokevirtual 219, 3) := by decide +kernel
theorem dX12_tell_47 : decode cX12_tell 47 = .ok (.iconst 3, 1) := by decide +kernel
theorem dX12_tell_48 : decode cX12_tell 48 = .ok (.ixor, 1) := by decide +kernel
theorem dX12_tell_49 : decode cX12_tell 49 = .ok (.ireturn, 1) := by decide +kernel
theorem dX12_tell_50 : decode cX12_tell 50 = .ok (.aload_n 0, 1) := by decide +kernel
theorem dX12_tell_51 : decode cX12_tell 51 = .ok (.bipush 51, 2) := by decide +kernel
theorem dX12_tell_53 : decode cX12_tell 53 = .ok (.invokevirtual 197, 3) := by decide +kernel
theorem dX12_tell_56 : decode cX12_tell 56 = .ok (.aload_n 0, 1) := by decide +kernel
theorem dX12_tell_57 : decode cX12_tell 57 = .ok (.iload_n 1, 1) := by decide +kernel
theorem dX12_tell_58 : decode cX12_tell 58 = .ok (.iload_n 2, 1) := by decide +kernel
theorem dX12_tell_59 : decode cX12_tell 59 = .ok (.iload_n 3, 1) := by decide +kernel
theorem dX12_tell_60 : decode cX12_tell 60 = .ok (.invokevirtual 216, 3) := by decide +kernel
theorem dX12_tell_63 : decode cX12_tell 63 = .ok (.istore 4, 2) := by decide +kernel
theorem dX12_tell_65 : decode cX12_tell 65 = .ok (.iload 4, 2) := by decide +kernel
theorem dX12_tell_67 : decode cX12_tell 67 = .ok (.aload_n 0, 1) := by decide +kernel
theorem dX12_tell_68 : decode cX12_tell 68 = .ok (.iload_n 1, 1) := by decide +kernel
theorem dX12_tell_69 : decode cX12_tell 69 = .ok (.iload_n 2, 1) := by decide +kernel
theorem dX12_tell_70 : decode cX12_tell 70 = .ok (.iload_n 3, 1) := by decide +kernel
theorem dX12_tell_71 : decode cX12_tell 71 = .ok (.invokevirtual 219, 3) := by decide +kernel
theorem dX12_tell_74 : decode cX12_tell 74 = .ok (.imul, 1) := by decide +kernel
theorem dX12_tell_75 : decode cX12_tell 75 = .ok (.ireturn, 1) := by decide +kernel
theorem dX12_tell_76 : decode cX12_tell 76 = .ok (.aload_n 0, 1) := by decide +kernel
theorem dX12_tell_77 : decode cX12_tell 77 = .ok (.iload_n 1, 1) := by decide +kernel
theorem dX12_tell_78 : decode cX12_tell 78 = .ok (.iload_n 2, 1) := by decide +kernel
theorem dX12_tell_79 : decode cX12_tell 79 = .ok (.iload_n 3, 1) := by decide +kernel
theorem dX12_tell_80 : decode cX12_tell 80 = .ok (.invokevirtual 219, 3) := by decide +kernel
theorem dX12_tell_83 : decode cX12_tell 83 = .ok (.ireturn, 1) := by decide +kernel
theorem dX12_act_0 : decode cX12_act 0 = .ok (.aload_n 0, 1) := by decide +kernel
theorem dX12_act_1 : decode cX12_act 1 = .ok (.iload_n 1, 1) := by decide +kernel
theorem dX12_act_2 : decode cX12_act 2 = .ok (.invokevirtual 106, 3) := by decide +kernel
theorem dX12_act_5 : decode cX12_act 5 = .ok (.ifCond .eq 12, 3) := by decide +kernel
theorem dX12_act_8 : decode cX12_act 8 = .ok (.iload_n 2, 1) := by decide +kernel
theorem dX12_act_9 : decode cX12_act 9 = .ok (.iconst 0, 1) := by decide +kernel
theorem dX12_act_10 : decode cX12_act 10 = .ok (.iconst 3, 1) := by decide +kernel
theorem dX12_act_11 : decode cX12_act 11 = .ok (.invokestatic 78, 3) := by decide +kernel
theorem dX12_act_14 : decode cX12_act 14 = .ok (.ifCond .ne 9, 3) := by decide +kernel
theorem dX12_act_17 : decode cX12_act 17 = .ok (.aload_n 0, 1) := by decide +kernel
theorem dX12_act_18 : decode cX12_act 18 = .ok (.iconst 1, 1) := by decide +kernel
theorem dX12_act_19 : decode cX12_act 19 = .ok (.invokevirtual 89, 3) := by decide +kernel
theorem dX12_act_22 : decode cX12_act 22 = .ok (.ireturn, 1) := by decide +kernel
theorem dX12_act_23 : decode cX12_act 23 = .ok (.aload_n 0, 1) := by decide +kernel
theorem dX12_act_24 : decode cX12_act 24 = .ok (.iload_n 1, 1) := by decide +kernel
theorem dX12_act_25 : decode cX12_act 25 = .ok (.invokevirtual 170, 3) := by decide +kernel
theorem dX12_act_28 : decode cX12_act 28 = .ok (.istore 4, 2) := by decide +kernel
theorem dX12_act_30 : decode cX12_act 30 = .ok (.aload_n 0, 1) := by decide +kernel
theorem dX12_act_31 : decode cX12_act 31 = .ok (.iconst 0, 1) := by decide +kernel
theorem dX12_act_32 : decode cX12_act 32 = .ok (.putfield 188, 3) := by decide +kernel
theorem dX12_act_35 : decode cX12_act 35 = .ok (.aload_n 0, 1) := by decide +kernel
theorem dX12_act_36 : decode cX12_act 36 = .ok (.iload_n 2, 1) := by decide +kernel
theorem dX12_act_37 : decode cX12_act 37 = .ok (.ifCond .ne 14, 3) := by decide +kernel
theorem dX12_act_40 : decode cX12_act 40 = .ok (.aload_n 0, 1) := by decide +kernel
theorem dX12_act_41 : decode cX12_act 41 = .ok (.iload_n 1, 1) := by decide +kernel
theorem dX12_act_42 : decode cX12_act 42 = .ok (.iload 4, 2) := by decide +kernel
theorem dX12_act_44 : decode cX12_act 44 = .ok (.iload_n 3, 1) := by decide +kernel
theorem dX12_act_45 : decode cX12_act 45 = .ok (.invokevirtual 209, 3) := by decide +kernel
theorem dX12_act_48 : decode cX12_act 48 = .ok (.goto 43, 3) := by decide +kernel
theorem dX12_act_51 : decode cX12_act 51 = .ok (.iload_n 2, 1) := by decide +kernel
theorem dX12_act_52 : decode cX12_act 52 = .ok (.iconst 1, 1) := by decide +kernel
theorem dX12_act_53 : decode cX12_act 53 = .ok (.if_icmp .ne 14, 3) := by decide +kernel
theorem dX12_act_56 : decode cX12_act 56 = .ok (.aload_n 0, 1) := by decide +kernel
theorem dX12_act_57 : decode cX12_act 57 = .ok (.iload_n 1, 1) := by decide +kernel
theorem dX12_act_58 : decode cX12_act 58 = .ok (.iload 4, 2) := by decide +kernel
theorem dX12_act_60 : decode cX12_act 60 = .ok (.iload_n 3, 1) := by decide +kernel
theorem dX12_act_61 : decode cX12_act 61 = .ok (.invokevirtual 213, 3) := by decide +kernel
theorem dX12_act_64 : decode cX12_act 64 = .ok (.goto 27, 3) := by decide +kernel
theorem dX12_act_67 : decode cX12_act 67 = .ok (.iload_n 2, 1) := by decide +kernel
theorem dX12_act_68 : decode cX12_act 68 = .ok (.iconst 2, 1) := by decide +kernel
theorem dX12_act_69 : decode cX12_act 69 = .ok (.if_icmp .ne 14, 3) := by decide +kernel
theorem dX12_act_72 : decode cX12_act 72 = .ok (.aload_n 0, 1) := by decide +kernel
theorem dX12_act_73 : decode cX12_act 73 = .ok (.iload_n 1, 1) := by decide +kernel
theorem dX12_act_74 : decode cX12_act 74 = .ok (.iload 4, 2) := by decide +kernel
theorem dX12_act_76 : decode cX12_act 76 = .ok (.iload_n 3, 1) := by decide +kernel
theorem dX12_act_77 : decode cX12_act 77 = .ok (.invokevirtual 216, 3) := by decide +kernel
theorem dX12_act_80 : decode cX12_act 80 = .ok (.goto 11, 3) := by decide +kernel
theorem dX12_act_83 : decode cX12_act 83 = .ok (.aload_n 0, 1) := by decide +kernel
theorem dX12_act_84 : decode cX12_act 84 = .ok (.iload_n 1, 1) := by decide +kernel
theorem dX12_act_85 : decode cX12_act 85 = .ok (.iload 4, 2) := by decide +kernel
theorem dX12_act_87 : decode cX12_act 87 = .ok (.iload_n 3, 1) := by decide +kernel
theorem dX12_act_88 : decode cX12_act 88 = .ok (.invokevirtual 222, 3) := by decide +kernel
theorem dX12_act_91 : decode cX12_act 91 = .ok (.invokevirtual 96, 3) := by decide +kernel
theorem dX12_act_94 : decode cX12_act 94 = .ok (.ireturn, 1) := by decide +kernel
theorem dX12_trace_0 : decode cX12_trace 0 = .ok (.iload_n 1, 1) := by decide +kernel
theorem dX12_trace_1 : decode cX12_trace 1 = .ok (.iconst 0, 1) := by decide +kernel
theorem dX12_trace_2 : decode cX12_trace 2 = .ok (.aload_n 0, 1) := by decide +kernel
theorem dX12_trace_3 : decode cX12_trace 3 = .ok (.getfield 188, 3) := by decide +kernel
theorem dX12_trace_6 : decode cX12_trace 6 = .ok (.bipush 50, 2) := by decide +kernel
theorem dX12_trace_8 : decode cX12_trace 8 = .ok (.if_icmp .ge 10, 3) := by decide +kernel
theorem dX12_trace_11 : decode cX12_trace 11 = .ok (.aload_n 0, 1) := by decide +kernel
theorem dX12_trace_12 : decode cX12_trace 12 = .ok (.getfield 188, 3) := by decide +kernel
theorem dX12_trace_15 : decode cX12_trace 15 = .ok (.goto 5, 3) := by decide +kernel
theorem dX12_trace_18 : decode cX12_trace 18 = .ok (.bipush 50, 2) := by decide +kernel
theorem dX12_trace_20 : decode cX12_trace 20 = .ok (.iconst 1, 1) := by decide +kernel
theorem dX12_trace_21 : decode cX12_trace 21 = .ok (.isub, 1) := by decide +kernel
theorem dX12_trace_22 : decode cX12_trace 22 = .ok (.invokestatic 78, 3) := by decide +kernel
theorem dX12_trace_25 : decode cX12_trace 25 = .ok (.ifCond .eq 12, 3) := by decide +kernel
theorem dX12_trace_28 : decode cX12_trace 28 = .ok (.aload_n 0, 1) := by decide +kernel
theorem dX12_trace_29 : decode cX12_trace 29 = .ok (.getfield 44, 3) := by decide +kernel
theorem dX12_trace_32 : decode cX12_trace 32 = .ok (.iload_n 1, 1) := by decide +kernel
theorem dX12_trace_33 : decode cX12_trace 33 = .ok (.iaload, 1) := by decide +kernel
theorem dX12_trace_34 : decode cX12_trace 34 = .ok (.goto 4, 3) := by decide +kernel
theorem dX12_trace_37 : decode cX12_trace 37 = .ok (.iconst (-1), 1) := by decide +kernel
theorem dX12_trace_38 : decode cX12_trace 38 = .ok (.ireturn, 1) := by decide +kernel
theorem dX12_sheet_0 : decode cX12_sheet 0 = .ok (.iload_n 1, 1) := by decide +kernel
theorem dX12_sheet_1 : decode cX12_sheet 1 = .ok (.iconst 0, 1) := by decide +kernel
theorem dX12_sheet_2 : decode cX12_sheet 2 = .ok (.iconst 5, 1) := by decide +kernel
theorem dX12_sheet_3 : decode cX12_sheet 3 = .ok (.invokestatic 78, 3) := by decide +kernel
theorem dX12_sheet_6 : decode cX12_sheet 6 = .ok (.ifCond .eq 27, 3) := by decide +kernel
theorem dX12_sheet_9 : decode cX12_sheet 9 = .ok (.iload_n 2, 1) := by decide +kernel
theorem dX12_sheet_10 : decode cX12_sheet 10 = .ok (.iconst (-1), 1) := by decide +kernel
theorem dX12_sheet_11 : decode cX12_sheet 11 = .ok (.iconst 2, 1) := by decide +kernel
theorem dX12_sheet_12 : decode cX12_sheet 12 = .ok (.invokestatic 78, 3) := by decide +kernel
theorem dX12_sheet_15 : decode cX12_sheet 15 = .ok (.ifCond .eq 18, 3) := by decide +kernel
theorem dX12_sheet_18 : decode cX12_sheet 18 = .ok (.iload_n 2, 1) := by decide +kernel
theorem dX12_sheet_19 : decode cX12_sheet 19 = .ok (.iconst (-1), 1) := by decide +kernel
theorem dX12_sheet_20 : decode cX12_sheet 20 = .ok (.if_icmp .eq 19, 3) := by decide +kernel
theorem dX12_sheet_23 : decode cX12_sheet 23 = .ok (.iload_n 3, 1) := by decide +kernel
theorem dX12_sheet_24 : decode cX12_sheet 24 = .ok (.iconst 0, 1) := by decide +kernel
theorem dX12_sheet_25 : decode cX12_sheet 25 = .ok (.bipush 20, 2) := by decide +kernel
theorem dX12_sheet_27 : decode cX12_sheet 27 = .ok (.invokestatic 78, 3) := by decide +kernel
theorem dX12_sheet_30 : decode cX12_sheet 30 = .ok (.ifCond .ne 9, 3) := by decide +kernel
theorem dX12_sheet_33 : decode cX12_sheet 33 = .ok (.aload_n 0, 1) := by decide +kernel
theorem dX12_sheet_34 : decode cX12_sheet 34 = .ok (.iconst 1, 1) := by decide +kernel
theorem dX12_sheet_35 : decode cX12_sheet 35 = .ok (.invokevirtual 89, 3) := by decide +kernel
theorem dX12_sheet_38 : decode cX12_sheet 38 = .ok (.ireturn, 1) := by decide +kernel
theorem dX12_sheet_39 : decode cX12_sheet 39 = .ok (.aload_n 0, 1) := by decide +kernel
theorem dX12_sheet_40 : decode cX12_sheet 40 = .ok (.getfield 34, 3) := by decide +kernel
theorem dX12_sheet_43 : decode cX12_sheet 43 = .ok (.iload_n 1, 1) := by decide +kernel
theorem dX12_sheet_44 : decode cX12_sheet 44 = .ok (.iload_n 2, 1) := by decide +kernel
theorem dX12_sheet_45 : decode cX12_sheet 45 = .ok (.iastore, 1) := by decide +kernel
theorem dX12_sheet_46 : decode cX12_sheet 46 = .ok (.aload_n 0, 1) := by decide +kernel
theorem dX12_sheet_47 : decode cX12_sheet 47 = .ok (.getfield 37, 3) := by decide +kernel
theorem dX12_sheet_50 : decode cX12_sheet 50 = .ok (.iload_n 1, 1) := by decide +kernel
theorem dX12_sheet_51 : decode cX12_sheet 51 = .ok (.iload_n 2, 1) := by decide +kernel
theorem dX12_sheet_52 : decode cX12_sheet 52 = .ok (.iconst (-1), 1) := by decide +kernel
theorem dX12_sheet_53 : decode cX12_sheet 53 = .ok (.if_icmp .ne 7, 3) := by decide +kernel
theorem dX12_sheet_56 : decode cX12_sheet 56 = .ok (.iconst 0, 1) := by decide +kernel
theorem dX12_sheet_57 : decode cX12_sheet 57 = .ok (.goto 4, 3) := by decide +kernel
theorem dX12_sheet_60 : decode cX12_sheet 60 = .ok (.iload_n 3, 1) := by decide +kernel
theorem dX12_sheet_61 : decode cX12_sheet 61 = .ok (.iastore, 1) := by decide +kernel
theorem dX12_sheet_62 : decode cX12_sheet 62 = .ok (.iconst 0, 1) := by decide +kernel
theorem dX12_sheet_63 : decode cX12_sheet 63 = .ok (.istore 4, 2) := by decide +kernel
theorem dX12_sheet_65 : decode cX12_sheet 65 = .ok (.iload 4, 2) := by decide +kernel
theorem dX12_sheet_67 : decode cX12_sheet 67 = .ok (.bipush 20, 2) := by decide +kernel
theorem dX12_sheet_69 : decode cX12_sheet 69 = .ok (.if_icmp .ge 22, 3) := by decide +kernel
theorem dX12_sheet_72 : decode cX12_sheet 72 = .ok (.aload_n 0, 1) := by decide +kernel
theorem dX12_sheet_73 : decode cX12_sheet 73 = .ok (.getfield 40, 3) := by decide +kernel
theorem dX12_sheet_76 : decode cX12_sheet 76 = .ok (.bipush 20, 2) := by decide +kernel
theorem dX12_sheet_78 : decode cX12_sheet 78 = .ok (.iload_n 1, 1) := by decide +kernel
theorem dX12_sheet_79 : decode cX12_sheet 79 = .ok (.imul, 1) := by decide +kernel
theorem dX12_sheet_80 : decode cX12_sheet 80 = .ok (.iload 4, 2) := by decide +kernel
theorem dX12_sheet_82 : decode cX12_sheet 82 = .ok (.iadd, 1) := by decide +kernel
theorem dX12_sheet_83 : decode cX12_sheet 83 = .ok (.lconst 0, 1) := by decide +kernel
theorem dX12_sheet_84 : decode cX12_sheet 84 = .ok (.lastore, 1) := by decide +kernel
theorem dX12_sheet_85 : decode cX12_sheet 85 = .ok (.iinc 4 1, 3) := by decide +kernel
theorem dX12_sheet_88 : decode cX12_sheet 88 = .ok (.goto (-23), 3) := by decide +kernel
theorem dX12_sheet_91 : decode cX12_sheet 91 = .ok (.aload_n 0, 1) := by decide +kernel
theorem dX12_sheet_92 : decode cX12_sheet 92 = .ok (.iconst 1, 1) := by decide +kernel
theorem dX12_sheet_93 : decode cX12_sheet 93 = .ok (.invokevirtual 96, 3) := by decide +kernel
theorem dX12_sheet_96 : decode cX12_sheet 96 = .ok (.ireturn, 1) := by decide +kernel
theorem dX12_cell_0 : decode cX12_cell 0 = .ok (.iload_n 1, 1) := by decide +kernel
theorem dX12_cell_1 : decode cX12_cell 1 = .ok (.iconst 0, 1) := by decide +kernel
theorem dX12_cell_2 : decode cX12_cell 2 = .ok (.iconst 5, 1) := by decide +kernel
theorem dX12_cell_3 : decode cX12_cell 3 = .ok (.invokestatic 78, 3) := by decide +kernel
theorem dX12_cell_6 : decode cX12_cell 6 = .ok (.ifCond .ne 9, 3) := by decide +kernel
theorem dX12_cell_9 : decode cX12_cell 9 = .ok (.aload_n 0, 1) := by decide +kernel
theorem dX12_cell_10 : decode cX12_cell 10 = .ok (.iconst 1, 1) := by decide +kernel
theorem dX12_cell_11 : decode cX12_cell 11 = .ok (.invokevirtual 89, 3) := by decide +kernel
theorem dX12_cell_14 : decode cX12_cell 14 = .ok (.ireturn, 1) := by decide +kernel
theorem dX12_cell_15 : decode cX12_cell 15 = .ok (.aload_n 0, 1) := by decide +kernel
theorem dX12_cell_16 : decode cX12_cell 16 = .ok (.getfield 34, 3) := by decide +kernel
theorem dX12_cell_19 : decode cX12_cell 19 = .ok (.iload_n 1, 1) := by decide +kernel
theorem dX12_cell_20 : decode cX12_cell 20 = .ok (.iaload, 1) := by decide +kernel
theorem dX12_cell_21 : decode cX12_cell 21 = .ok (.iconst (-1), 1) := by decide +kernel
theorem dX12_cell_22 : decode cX12_cell 22 = .ok (.if_icmp .ne 10, 3) := by decide +kernel
theorem dX12_cell_25 : decode cX12_cell 25 = .ok (.aload_n 0, 1) := by decide +kernel
theorem dX12_cell_26 : decode cX12_cell 26 = .ok (.bipush 10, 2) := by decide +kernel
theorem dX12_cell_28 : decode cX12_cell 28 = .ok (.invokevirtual 89, 3) := by decide +kernel
theorem dX12_cell_31 : decode cX12_cell 31 = .ok (.ireturn, 1) := by decide +kernel
theorem dX12_cell_32 : decode cX12_cell 32 = .ok (.iload_n 2, 1) := by decide +kernel
theorem dX12_cell_33 : decode cX12_cell 33 = .ok (.iconst 0, 1) := by decide +kernel
theorem dX12_cell_34 : decode cX12_cell 34 = .ok (.aload_n 0, 1) := by decide +kernel
theorem dX12_cell_35 : decode cX12_cell 35 = .ok (.getfield 37, 3) := by decide +kernel
theorem dX12_cell_38 : decode cX12_cell 38 = .ok (.iload_n 1, 1) := by decide +kernel
theorem dX12_cell_39 : decode cX12_cell 39 = .ok (.iaload, 1) := by decide +kernel
theorem dX12_cell_40 : decode cX12_cell 40 = .ok (.iconst 1, 1) := by decide +kernel
theorem dX12_cell_41 : decode cX12_cell 41 = .ok (.isub, 1) := by decide +kernel
theorem dX12_cell_42 : decode cX12_cell 42 = .ok (.invokestatic 78, 3) := by decide +kernel
theorem dX12_cell_45 : decode cX12_cell 45 = .ok (.ifCond .ne 10, 3) := by decide +kernel
theorem dX12_cell_48 : decode cX12_cell 48 = .ok (.aload_n 0, 1) := by decide +kernel
theorem dX12_cell_49 : decode cX12_cell 49 = .ok (.bipush 12, 2) := by decide +kernel
theorem dX12_cell_51 : decode cX12_cell 51 = .ok (.invokevirtual 89, 3) := by decide +kernel
theorem dX12_cell_54 : decode cX12_cell 54 = .ok (.ireturn, 1) := by decide +kernel
theorem dX12_cell_55 : decode cX12_cell 55 = .ok (.aload_n 0, 1) := by decide +kernel
theorem dX12_cell_56 : decode cX12_cell 56 = .ok (.getfield 40, 3) := by decide +kernel
theorem dX12_cell_59 : decode cX12_cell 59 = .ok (.bipush 20, 2) := by decide +kernel
theorem dX12_cell_61 : decode cX12_cell 61 = .ok (.iload_n 1, 1) := by decide +kernel
theorem dX12_cell_62 : decode cX12_cell 62 = .ok (.imul, 1) := by decide +kernel
theorem dX12_cell_63 : decode cX12_cell 63 = .ok (.iload_n 2, 1) := by decide +kernel
theorem dX12_cell_64 : decode cX12_cell 64 = .ok (.iadd, 1) := by decide +kernel
theorem dX12_cell_65 : decode cX12_cell 65 = .ok (.aload_n 0, 1) := by decide +kernel
theorem dX12_cell_66 : decode cX12_cell 66 = .ok (.getfield 34, 3) := by decide +kernel
theorem dX12_cell_69 : decode cX12_cell 69 = .ok (.iload_n 1, 1) := by decide +kernel
theorem dX12_cell_70 : decode cX12_cell 70 = .ok (.iaload, 1) := by decide +kernel
theorem dX12_cell_71 : decode cX12_cell 71 = .ok (.ifCond .ne 9, 3) := by decide +kernel
theorem dX12_cell_74 : decode cX12_cell 74 = .ok (.iload_n 3, 1) := by decide +kernel
theorem dX12_cell_75 : decode cX12_cell 75 = .ok (.i2s, 1) := by decide +kernel
theorem dX12_cell_76 : decode cX12_cell 76 = .ok (.i2l, 1) := by decide +kernel
theorem dX12_cell_77 : decode cX12_cell 77 = .ok (.goto 5, 3) := by decide +kernel
theorem dX12_cell_80 : decode cX12_cell 80 = .ok (.iload_n 3, 1) := by decide +kernel
theorem dX12_cell_81 : decode cX12_cell 81 = .ok (.i2l, 1) := by decide +kernel
theorem dX12_cell_82 : decode cX12_cell 82 = .ok (.lastore, 1) := by decide +kernel
theorem dX12_cell_83 : decode cX12_cell 83 = .ok (.aload_n 0, 1) := by decide +kernel
theorem dX12_cell_84 : decode cX12_cell 84 = .ok (.iconst 1, 1) := by decide +kernel
theorem dX12_cell_85 : decode cX12_cell 85 = .ok (.invokevirtual 96, 3) := by decide +kernel
theorem dX12_cell_88 : decode cX12_cell 88 = .ok (.ireturn, 1) := by decide +kernel
theorem dX12_fromSheet_0 : decode cX12_fromSheet 0 = .ok (.iload_n 1, 1) := by decide +kernel
theorem dX12_fromSheet_1 : decode cX12_fromSheet 1 = .ok (.iconst 0, 1) := by decide +kernel
theorem dX12_fromSheet_2 : decode cX12_fromSheet 2 = .ok (.iconst 5, 1) := by decide +kernel
theorem dX12_fromSheet_3 : decode cX12_fromSheet 3 = .ok (.invokestatic 78, 3) := by decide +kernel
theorem dX12_fromSheet_6 : decode cX12_fromSheet 6 = .ok (.ifCond .eq 12, 3) := by decide +kernel
theorem dX12_fromSheet_9 : decode cX12_fromSheet 9 = .ok (.iload_n 2, 1) := by decide +kernel
theorem dX12_fromSheet_10 : decode cX12_fromSheet 10 = .ok (.iconst 0, 1) := by decide +kernel
theorem dX12_fromSheet_11 : decode cX12_fromSheet 11 = .ok (.iconst 2, 1) := by decide +kernel
theorem dX12_fromSheet_12 : decode cX12_fromSheet 12 = .ok (.invokestatic 78, 3) := by decide +kernel
theorem dX12_fromSheet_15 : decode cX12_fromSheet 15 = .ok (.ifCond .ne 9, 3) := by decide +kernel
theorem dX12_fromSheet_18 : decode cX12_fromSheet 18 = .ok (.aload_n 0, 1) := by decide +kernel
theorem dX12_fromSheet_19 : decode cX12_fromSheet 19 = .ok (.iconst 1, 1) := by decide +kernel
theorem dX12_fromSheet_20 : decode cX12_fromSheet 20 = .ok (.invokevirtual 89, 3) := by decide +kernel
theorem dX12_fromSheet_23 : decode cX12_fromSheet 23 = .ok (.ireturn, 1) := by decide +kernel
theorem dX12_fromSheet_24 : decode cX12_fromSheet 24 = .ok (.aload_n 0, 1) := by decide +kernel
theorem dX12_fromSheet_25 : decode cX12_fromSheet 25 = .ok (.getfield 75, 3) := by decide +kernel
theorem dX12_fromSheet_28 : decode cX12_fromSheet 28 = .ok (.bipush 12, 2) := by decide +kernel
theorem dX12_fromSheet_30 : decode cX12_fromSheet 30 = .ok (.if_icmp .ne 9, 3) := by decide +kernel
theorem dX12_fromSheet_33 : decode cX12_fromSheet 33 = .ok (.aload_n 0, 1) := by decide +kernel
theorem dX12_fromSheet_34 : decode cX12_fromSheet 34 = .ok (.iconst 2, 1) := by decide +kernel
theorem dX12_fromSheet_35 : decode cX12_fromSheet 35 = .ok (.invokevirtual 89, 3) := by decide +kernel
theorem dX12_fromSheet_38 : decode cX12_fromSheet 38 = .ok (.ireturn, 1) := by decide +kernel
theorem dX12_fromSheet_39 : decode cX12_fromSheet 39 = .ok (.aload_n 0, 1) := by decide +kernel
theorem dX12_fromSheet_40 : decode cX12_fromSheet 40 = .ok (.getfield 34, 3) := by decide +kernel
theorem dX12_fromSheet_43 : decode cX12_fromSheet 43 = .ok (.iload_n 1, 1) := by decide +kernel
theorem dX12_fromSheet_44 : decode cX12_fromSheet 44 = .ok (.iaload, 1) := by decide +kernel
theorem dX12_fromSheet_45 : decode cX12_fromSheet 45 = .ok (.iconst (-1), 1) := by decide +kernel
theorem dX12_fromSheet_46 : decode cX12_fromSheet 46 = .ok (.if_icmp .ne 10, 3) := by decide +kernel
theorem dX12_fromSheet_49 : decode cX12_fromSheet 49 = .ok (.aload_n 0, 1) := by decide +kernel
theorem dX12_fromSheet_50 : decode cX12_fromSheet 50 = .ok (.bipush 10, 2) := by decide +kernel
theorem dX12_fromSheet_52 : decode cX12_fromSheet 52 = .ok (.invokevirtual 89, 3) := by decide +kernel
theorem dX12_fromSheet_55 : decode cX12_fromSheet 55 = .ok (.ireturn, 1) := by decide +kernel
theorem dX12_fromSheet_56 : decode cX12_fromSheet 56 = .ok (.aload_n 0, 1) := by decide +kernel
theorem dX12_fromSheet_57 : decode cX12_fromSheet 57 = .ok (.getfield 34, 3) := by decide +kernel
theorem dX12_fromSheet_60 : decode cX12_fromSheet 60 = .ok (.iload_n 1, 1) := by decide +kernel
theorem dX12_fromSheet_61 : decode cX12_fromSheet 61 = .ok (.iaload, 1) := by decide +kernel
theorem dX12_fromSheet_62 : decode cX12_fromSheet 62 = .ok (.iload_n 2, 1) := by decide +kernel
theorem dX12_fromSheet_63 : decode cX12_fromSheet 63 = .ok (.if_icmp .eq 10, 3) := by decide +kernel
theorem dX12_fromSheet_66 : decode cX12_fromSheet 66 = .ok (.aload_n 0, 1) := by decide +kernel
theorem dX12_fromSheet_67 : decode cX12_fromSheet 67 = .ok (.bipush 11, 2) := by decide +kernel
theorem dX12_fromSheet_69 : decode cX12_fromSheet 69 = .ok (.invokevirtual 89, 3) := by decide +kernel
theorem dX12_fromSheet_72 : decode cX12_fromSheet 72 = .ok (.ireturn, 1) := by decide +kernel
theorem dX12_fromSheet_73 : decode cX12_fromSheet 73 = .ok (.iload_n 3, 1) := by decide +kernel
theorem dX12_fromSheet_74 : decode cX12_fromSheet 74 = .ok (.ifCond .lt 15, 3) := by decide +kernel
theorem dX12_fromSheet_77 : decode cX12_fromSheet 77 = .ok (.iload_n 3, 1) := by decide +kernel
theorem dX12_fromSheet_78 : decode cX12_fromSheet 78 = .ok (.aload_n 0, 1) := by decide +kernel
theorem dX12_fromSheet_79 : decode cX12_fromSheet 79 = .ok (.getfield 37, 3) := by decide +kernel
theorem dX12_fromSheet_82 : decode cX12_fromSheet 82 = .ok (.iload_n 1, 1) := by decide +kernel
theorem dX12_fromSheet_83 : decode cX12_fromSheet 83 = .ok (.iaload, 1) := by decide +kernel
theorem dX12_fromSheet_84 : decode cX12_fromSheet 84 = .ok (.iconst 2, 1) := by decide +kernel
theorem dX12_fromSheet_85 : decode cX12_fromSheet 85 = .ok (.isub, 1) := by decide +kernel
theorem dX12_fromSheet_86 : decode cX12_fromSheet 86 = .ok (.if_icmp .le 10, 3) := by decide +kernel
theorem dX12_fromSheet_89 : decode cX12_fromSheet 89 = .ok (.aload_n 0, 1) := by decide +kernel
theorem dX12_fromSheet_90 : decode cX12_fromSheet 90 = .ok (.bipush 12, 2) := by decide +kernel
theorem dX12_fromSheet_92 : decode cX12_fromSheet 92 = .ok (.invokevirtual 89, 3) := by decide +kernel
theorem dX12_fromSheet_95 : decode cX12_fromSheet 95 = .ok (.ireturn, 1) := by decide +kernel
theorem dX12_fromSheet_96 : decode cX12_fromSheet 96 = .ok (.aload_n 0, 1) := by decide +kernel
theorem dX12_fromSheet_97 : decode cX12_fromSheet 97 = .ok (.getfield 40, 3) := by decide +kernel
theorem dX12_fromSheet_100 : decode cX12_fromSheet 100 = .ok (.bipush 20, 2) := by decide +kernel
theorem dX12_fromSheet_102 : decode cX12_fromSheet 102 = .ok (.iload_n 1, 1) := by decide +kernel
theorem dX12_fromSheet_103 : decode cX12_fromSheet 103 = .ok (.imul, 1) := by decide +kernel
theorem dX12_fromSheet_104 : decode cX12_fromSheet 104 = .ok (.iload_n 3, 1) := by decide +kernel
theorem dX12_fromSheet_105 : decode cX12_fromSheet 105 = .ok (.iadd, 1) := by decide +kernel
theorem dX12_fromSheet_106 : decode cX12_fromSheet 106 = .ok (.laload, 1) := by decide +kernel
theorem dX12_fromSheet_107 : decode cX12_fromSheet 107 = .ok (.lstore 4, 2) := by decide +kernel
theorem dX12_fromSheet_109 : decode cX12_fromSheet 109 = .ok (.aload_n 0, 1) := by decide +kernel
theorem dX12_fromSheet_110 : decode cX12_fromSheet 110 = .ok (.getfield 40, 3) := by decide +kernel
theorem dX12_fromSheet_113 : decode cX12_fromSheet 113 = .ok (.bipush 20, 2) := by decide +kernel
theorem dX12_fromSheet_115 : decode cX12_fromSheet 115 = .ok (.iload_n 1, 1) := by decide +kernel
theorem dX12_fromSheet_116 : decode cX12_fromSheet 116 = .ok (.imul, 1) := by decide +kernel
theorem dX12_fromSheet_117 : decode cX12_fromSheet 117 = .ok (.iload_n 3, 1) := by decide +kernel
theorem dX12_fromSheet_118 : decode cX12_fromSheet 118 = .ok (.iadd, 1) := by decide +kernel
theorem dX12_fromSheet_119 : decode cX12_fromSheet 119 = .ok (.iconst 1, 1) := by decide +kernel
theorem dX12_fromSheet_120 : decode cX12_fromSheet 120 = .ok (.iadd, 1) := by decide +kernel
theorem dX12_fromSheet_121 : decode cX12_fromSheet 121 = .ok (.laload, 1) := by decide +kernel
theorem dX12_fromSheet_122 : decode cX12_fromSheet 122 = .ok (.lstore 6, 2) := by decide +kernel
theorem dX12_fromSheet_124 : decode cX12_fromSheet 124 = .ok (.lload 4, 2) := by decide +kernel
theorem dX12_fromSheet_126 : decode cX12_fromSheet 126 = .ok (.lconst 1, 1) := by decide +kernel
theorem dX12_fromSheet_127 : decode cX12_fromSheet 127 = .ok (.lcmp, 1) := by decide +kernel
theorem dX12_fromSheet_128 : decode cX12_fromSheet 128 = .ok (.ifCond .lt 28, 3) := by decide +kernel
theorem dX12_fromSheet_131 : decode cX12_fromSheet 131 = .ok (.lload 4, 2) := by decide +kernel
theorem dX12_fromSheet_133 : decode cX12_fromSheet 133 = .ok (.ldc2_w 225, 3) := by decide +kernel
theorem dX12_fromSheet_136 : decode cX12_fromSheet 136 = .ok (.lcmp, 1) := by decide +kernel
theorem dX12_fromSheet_137 : decode cX12_fromSheet 137 = .ok (.ifCond .gt 19, 3) := by decide +kernel
theorem dX12_fromSheet_140 : decode cX12_fromSheet 140 = .ok (.lload 6, 2) := by decide +kernel
theorem dX12_fromSheet_142 : decode cX12_fromSheet 142 = .ok (.lconst 0, 1) := by decide +kernel
theorem dX12_fromSheet_143 : decode cX12_fromSheet 143 = .ok (.lcmp, 1) := by decide +kernel
theorem dX12_fromSheet_144 : decode cX12_fromSheet 144 = .ok (.ifCond .lt 12, 3) := by decide +kernel
theorem dX12_fromSheet_147 : decode cX12_fromSheet 147 = .ok (.lload 6, 2) := by decide +kernel
theorem dX12_fromSheet_149 : decode cX12_fromSheet 149 = .ok (.ldc2_w 225, 3) := by decide +kernel
theorem dX12_fromSheet_152 : decode cX12_fromSheet 152 = .ok (.lcmp, 1) := by decide +kernel
theorem dX12_fromSheet_153 : decode cX12_fromSheet 153 = .ok (.ifCond .le 9, 3) := by decide +kernel
theorem dX12_fromSheet_156 : decode cX12_fromSheet 156 = .ok (.aload_n 0, 1) := by decide +kernel
theorem dX12_fromSheet_157 : decode cX12_fromSheet 157 = .ok (.iconst 3, 1) := by decide +kernel
theorem dX12_fromSheet_158 : decode cX12_fromSheet 158 = .ok (.invokevirtual 89, 3) := by decide +kernel
theorem dX12_fromSheet_161 : decode cX12_fromSheet 161 = .ok (.ireturn, 1) := by decide +kernel
theorem dX12_fromSheet_162 : decode cX12_fromSheet 162 = .ok (.aload_n 0, 1) := by decide +kernel
theorem dX12_fromSheet_163 : decode cX12_fromSheet 163 = .ok (.lload 4, 2) := by decide +kernel
theorem dX12_fromSheet_165 : decode cX12_fromSheet 165 = .ok (.l2i, 1) := by decide +kernel
theorem dX12_fromSheet_166 : decode cX12_fromSheet 166 = .ok (.lload 6, 2) := by decide +kernel
theorem dX12_fromSheet_168 : decode cX12_fromSheet 168 = .ok (.l2i, 1) := by decide +kernel
theorem dX12_fromSheet_169 : decode cX12_fromSheet 169 = .ok (.invokevirtual 102, 3) := by decide +kernel
theorem dX12_fromSheet_172 : decode cX12_fromSheet 172 = .ok (.ireturn, 1) := by decide +kernel
theorem dX12_sum_0 : decode cX12_sum 0 = .ok (.iconst 0, 1) := by decide +kernel
theorem dX12_sum_1 : decode cX12_sum 1 = .ok (.istore_n 3, 1) := by decide +kernel
theorem dX12_sum_2 : decode cX12_sum 2 = .ok (.iconst 1, 1) := by decide +kernel
theorem dX12_sum_3 : decode cX12_sum 3 = .ok (.istore 4, 2) := by decide +kernel
theorem dX12_sum_5 : decode cX12_sum 5 = .ok (.iload 4, 2) := by decide +kernel
theorem dX12_sum_7 : decode cX12_sum 7 = .ok (.iload_n 2, 1) := by decide +kernel
theorem dX12_sum_8 : decode cX12_sum 8 = .ok (.if_icmp .gt 25, 3) := by decide +kernel
theorem dX12_sum_11 : decode cX12_sum 11 = .ok (.iload_n 3, 1) := by decide +kernel
theorem dX12_sum_12 : decode cX12_sum 12 = .ok (.aload_n 0, 1) := by decide +kernel
theorem dX12_sum_13 : decode cX12_sum 13 = .ok (.getfield 40, 3) := by decide +kernel
theorem dX12_sum_16 : decode cX12_sum 16 = .ok (.bipush 20, 2) := by decide +kernel
theorem dX12_sum_18 : decode cX12_sum 18 = .ok (.iload_n 1, 1) := by decide +kernel
theorem dX12_sum_19 : decode cX12_sum 19 = .ok (.imul, 1) := by decide +kernel
theorem dX12_sum_20 : decode cX12_sum 20 = .ok (.iload 4, 2) := by decide +kernel
theorem dX12_sum_22 : decode cX12_sum 22 = .ok (.iadd, 1) := by decide +kernel
theorem dX12_sum_23 : decode cX12_sum 23 = .ok (.laload, 1) := by decide +kernel
theorem dX12_sum_24 : decode cX12_sum 24 = .ok (.l2i, 1) := by decide +kernel
theorem dX12_sum_25 : decode cX12_sum 25 = .ok (.iadd, 1) := by decide +kernel
theorem dX12_sum_26 : decode cX12_sum 26 = .ok (.istore_n 3, 1) := by decide +kernel
theorem dX12_sum_27 : decode cX12_sum 27 = .ok (.iinc 4 1, 3) := by decide +kernel
theorem dX12_sum_30 : decode cX12_sum 30 = .ok (.goto (-25), 3) := by decide +kernel
theorem dX12_sum_33 : decode cX12_sum 33 = .ok (.iload_n 3, 1) := by decide +kernel
theorem dX12_sum_34 : decode cX12_sum 34 = .ok (.ireturn, 1) := by decide +kernel
theorem dX12_unitTaken_0 : decode cX12_unitTaken 0 = .ok (.iload_n 1, 1) := by decide +kernel
theorem dX12_unitTaken_1 : decode cX12_unitTaken 1 = .ok (.bipush 12, 2) := by decide +kernel
theorem dX12_unitTaken_3 : decode cX12_unitTaken 3 = .ok (.irem, 1) := by decide +kernel
theorem dX12_unitTaken_4 : decode cX12_unitTaken 4 = .ok (.bipush 12, 2) := by decide +kernel
theorem dX12_unitTaken_6 : decode cX12_unitTaken 6 = .ok (.iadd, 1) := by decide +kernel
theorem dX12_unitTaken_7 : decode cX12_unitTaken 7 = .ok (.bipush 12, 2) := by decide +kernel
theorem dX12_unitTaken_9 : decode cX12_unitTaken 9 = .ok (.irem, 1) := by decide +kernel
theorem dX12_unitTaken_10 : decode cX12_unitTaken 10 = .ok (.istore_n 2, 1) := by decide +kernel
theorem dX12_unitTaken_11 : decode cX12_unitTaken 11 = .ok (.aload_n 0, 1) := by decide +kernel
theorem dX12_unitTaken_12 : decode cX12_unitTaken 12 = .ok (.iload_n 2, 1) := by decide +kernel
theorem dX12_unitTaken_13 : decode cX12_unitTaken 13 = .ok (.invokevirtual 106, 3) := by decide +kernel
theorem dX12_unitTaken_16 : decode cX12_unitTaken 16 = .ok (.ifCond .ne 10, 3) := by decide +kernel
theorem dX12_unitTaken_19 : decode cX12_unitTaken 19 = .ok (.aload_n 0, 1) := by decide +kernel
theorem dX12_unitTaken_20 : decode cX12_unitTaken 20 = .ok (.bipush 10, 2) := by decide +kernel
theorem dX12_unitTaken_22 : decode cX12_unitTaken 22 = .ok (.invokevirtual 89, 3) := by decide +kernel
theorem dX12_unitTaken_25 : decode cX12_unitTaken 25 = .ok (.ireturn, 1) := by decide +kernel
theorem dX12_unitTaken_26 : decode cX12_unitTaken 26 = .ok (.aload_n 0, 1) := by decide +kernel
theorem dX12_unitTaken_27 : decode cX12_unitTaken 27 = .ok (.iload_n 2, 1) := by decide +kernel
theorem dX12_unitTaken_28 : decode cX12_unitTaken 28 = .ok (.invokevirtual 170, 3) := by decide +kernel
theorem dX12_unitTaken_31 : decode cX12_unitTaken 31 = .ok (.istore_n 3, 1) := by decide +kernel
theorem dX12_unitTaken_32 : decode cX12_unitTaken 32 = .ok (.iload_n 3, 1) := by decide +kernel
theorem dX12_unitTaken_33 : decode cX12_unitTaken 33 = .ok (.iconst 1, 1) := by decide +kernel
theorem dX12_unitTaken_34 : decode cX12_unitTaken 34 = .ok (.if_icmp .eq 8, 3) := by decide +kernel
theorem dX12_unitTaken_37 : decode cX12_unitTaken 37 = .ok (.iload_n 3, 1) := by decide +kernel
theorem dX12_unitTaken_38 : decode cX12_unitTaken 38 = .ok (.iconst 3, 1) := by decide +kernel
theorem dX12_unitTaken_39 : decode cX12_unitTaken 39 = .ok (.if_icmp .ne 16, 3) := by decide +kernel
theorem dX12_unitTaken_42 : decode cX12_unitTaken 42 = .ok (.aload_n 0, 1) := by decide +kernel
theorem dX12_unitTaken_43 : decode cX12_unitTaken 43 = .ok (.aload_n 0, 1) := by decide +kernel
theorem dX12_unitTaken_44 : decode cX12_unitTaken 44 = .ok (.getfield 7, 3) := by decide +kernel
theorem dX12_unitTaken_47 : decode cX12_unitTaken 47 = .ok (.iload_n 2, 1) := by decide +kernel
theorem dX12_unitTaken_48 : decode cX12_unitTaken 48 = .ok (.iaload, 1) := by decide +kernel
theorem dX12_unitTaken_49 : decode cX12_unitTaken 49 = .ok (.invokevirtual 96, 3) := by decide +kernel
theorem dX12_unitTaken_52 : decode cX12_unitTaken 52 = .ok (.goto 9, 3) := by decide +kernel
theorem dX12_unitTaken_55 : decode cX12_unitTaken 55 = .ok (.aload_n 0, 1) := by decide +kernel
theorem dX12_unitTaken_56 : decode cX12_unitTaken 56 = .ok (.bipush 11, 2) := by decide +kernel
theorem dX12_unitTaken_58 : decode cX12_unitTaken 58 = .ok (.invokevirtual 89, 3) := by decide +kernel
theorem dX12_unitTaken_61 : decode cX12_unitTaken 61 = .ok (.ireturn, 1) := by decide +kernel
theorem dX12_forge_0 : decode cX12_forge 0 = .ok (.iload_n 1, 1) := by decide +kernel
theorem dX12_forge_1 : decode cX12_forge 1 = .ok (.iconst 0, 1) := by decide +kernel
theorem dX12_forge_2 : decode cX12_forge 2 = .ok (.iconst 5, 1) := by decide +kernel
theorem dX12_forge_3 : decode cX12_forge 3 = .ok (.invokestatic 78, 3) := by decide +kernel
theorem dX12_forge_6 : decode cX12_forge 6 = .ok (.ifCond .eq 24, 3) := by decide +kernel
theorem dX12_forge_9 : decode cX12_forge 9 = .ok (.iload_n 2, 1) := by decide +kernel
theorem dX12_forge_10 : decode cX12_forge 10 = .ok (.iconst 0, 1) := by decide +kernel
theorem dX12_forge_11 : decode cX12_forge 11 = .ok (.bipush 6, 2) := by decide +kernel
theorem dX12_forge_13 : decode cX12_forge 13 = .ok (.invokestatic 78, 3) := by decide +kernel
theorem dX12_forge_16 : decode cX12_forge 16 = .ok (.ifCond .eq 14, 3) := by decide +kernel
theorem dX12_forge_19 : decode cX12_forge 19 = .ok (.iload_n 3, 1) := by decide +kernel
theorem dX12_forge_20 : decode cX12_forge 20 = .ok (.bipush (-100), 2) := by decide +kernel
theorem dX12_forge_22 : decode cX12_forge 22 = .ok (.bipush 100, 2) := by decide +kernel
theorem dX12_forge_24 : decode cX12_forge 24 = .ok (.invokestatic 78, 3) := by decide +kernel
theorem dX12_forge_27 : decode cX12_forge 27 = .ok (.ifCond .ne 9, 3) := by decide +kernel
theorem dX12_forge_30 : decode cX12_forge 30 = .ok (.aload_n 0, 1) := by decide +kernel
theorem dX12_forge_31 : decode cX12_forge 31 = .ok (.iconst 1, 1) := by decide +kernel
theorem dX12_forge_32 : decode cX12_forge 32 = .ok (.invokevirtual 89, 3) := by decide +kernel
theorem dX12_forge_35 : decode cX12_forge 35 = .ok (.ireturn, 1) := by decide +kernel
theorem dX12_forge_36 : decode cX12_forge 36 = .ok (.aload_n 0, 1) := by decide +kernel
theorem dX12_forge_37 : decode cX12_forge 37 = .ok (.getfield 34, 3) := by decide +kernel
theorem dX12_forge_40 : decode cX12_forge 40 = .ok (.iload_n 1, 1) := by decide +kernel
theorem dX12_forge_41 : decode cX12_forge 41 = .ok (.iaload, 1) := by decide +kernel
theorem dX12_forge_42 : decode cX12_forge 42 = .ok (.istore 4, 2) := by decide +kernel
theorem dX12_forge_44 : decode cX12_forge 44 = .ok (.iload_n 2, 1) := by decide +kernel
theorem dX12_forge_45 : decode cX12_forge 45 = .ok (.tableswitch 259 0 5 #[39, 86, 105, 176, 215, 238], 39) := by decide +kernel
theorem dX12_forge_84 : decode cX12_forge 84 = .ok (.iload 4, 2) := by decide +kernel
theorem dX12_forge_86 : decode cX12_forge 86 = .ok (.iconst (-1), 1) := by decide +kernel
theorem dX12_forge_87 : decode cX12_forge 87 = .ok (.if_icmp .ne 12, 3) := by decide +kernel
theorem dX12_forge_90 : decode cX12_forge 90 = .ok (.aload_n 0, 1) := by decide +kernel
theorem dX12_forge_91 : decode cX12_forge 91 = .ok (.bipush 10, 2) := by decide +kernel
theorem dX12_forge_93 : decode cX12_forge 93 = .ok (.invokevirtual 89, 3) := by decide +kernel
theorem dX12_forge_96 : decode cX12_forge 96 = .ok (.goto 34, 3) := by decide +kernel
theorem dX12_forge_99 : decode cX12_forge 99 = .ok (.iload 4, 2) := by decide +kernel
theorem dX12_forge_101 : decode cX12_forge 101 = .ok (.iload_n 3, 1) := by decide +kernel
theorem dX12_forge_102 : decode cX12_forge 102 = .ok (.iconst 3, 1) := by decide +kernel
theorem dX12_forge_103 : decode cX12_forge 103 = .ok (.irem, 1) := by decide +kernel
theorem dX12_forge_104 : decode cX12_forge 104 = .ok (.iconst 3, 1) := by decide +kernel
theorem dX12_forge_105 : decode cX12_forge 105 = .ok (.iadd, 1) := by decide +kernel
theorem dX12_forge_106 : decode cX12_forge 106 = .ok (.iconst 3, 1) := by decide +kernel
theorem dX12_forge_107 : decode cX12_forge 107 = .ok (.irem, 1) := by decide +kernel
theorem dX12_forge_108 : decode cX12_forge 108 = .ok (.if_icmp .eq 12, 3) := by decide +kernel
theorem dX12_forge_111 : decode cX12_forge 111 = .ok (.aload_n 0, 1) := by decide +kernel
theorem dX12_forge_112 : decode cX12_forge 112 = .ok (.bipush 11, 2) := by decide +kernel
theorem dX12_forge_114 : decode cX12_forge 114 = .ok (.invokevirtual 89, 3) := by decide +kernel
theorem dX12_forge_117 : decode cX12_forge 117 = .ok (.goto 13, 3) := by decide +kernel
theorem dX12_forge_120 : decode cX12_forge 120 = .ok (.aload_n 0, 1) := by decide +kernel
theorem dX12_forge_121 : decode cX12_forge 121 = .ok (.aload_n 0, 1) := by decide +kernel
theorem dX12_forge_122 : decode cX12_forge 122 = .ok (.getfield 37, 3) := by decide +kernel
theorem dX12_forge_125 : decode cX12_forge 125 = .ok (.iload_n 1, 1) := by decide +kernel
theorem dX12_forge_126 : decode cX12_forge 126 = .ok (.iaload, 1) := by decide +kernel
theorem dX12_forge_127 : decode cX12_forge 127 = .ok (.invokevirtual 96, 3) := by decide +kernel
theorem dX12_forge_130 : decode cX12_forge 130 = .ok (.ireturn, 1) := by decide +kernel
theorem dX12_forge_131 : decode cX12_forge 131 = .ok (.iload_n 3, 1) := by decide +kernel
theorem dX12_forge_132 : decode cX12_forge 132 = .ok (.ifCond .ge 12, 3) := by decide +kernel
theorem dX12_forge_135 : decode cX12_forge 135 = .ok (.aload_n 0, 1) := by decide +kernel
theorem dX12_forge_136 : decode cX12_forge 136 = .ok (.bipush 13, 2) := by decide +kernel
theorem dX12_forge_138 : decode cX12_forge 138 = .ok (.invokevirtual 89, 3) := by decide +kernel
theorem dX12_forge_141 : decode cX12_forge 141 = .ok (.goto 8, 3) := by decide +kernel
theorem dX12_forge_144 : decode cX12_forge 144 = .ok (.aload_n 0, 1) := by decide +kernel
theorem dX12_forge_145 : decode cX12_forge 145 = .ok (.iload_n 3, 1) := by decide +kernel
theorem dX12_forge_146 : decode cX12_forge 146 = .ok (.invokevirtual 96, 3) := by decide +kernel
theorem dX12_forge_149 : decode cX12_forge 149 = .ok (.ireturn, 1) := by decide +kernel
theorem dX12_forge_150 : decode cX12_forge 150 = .ok (.iload 4, 2) := by decide +kernel
theorem dX12_forge_152 : decode cX12_forge 152 = .ok (.iconst (-1), 1) := by decide +kernel
theorem dX12_forge_153 : decode cX12_forge 153 = .ok (.if_icmp .ne 12, 3) := by decide +kernel
theorem dX12_forge_156 : decode cX12_forge 156 = .ok (.aload_n 0, 1) := by decide +kernel
theorem dX12_forge_157 : decode cX12_forge 157 = .ok (.bipush 10, 2) := by decide +kernel
theorem dX12_forge_159 : decode cX12_forge 159 = .ok (.invokevirtual 89, 3) := by decide +kernel
theorem dX12_forge_162 : decode cX12_forge 162 = .ok (.goto 58, 3) := by decide +kernel
theorem dX12_forge_165 : decode cX12_forge 165 = .ok (.iload 4, 2) := by decide +kernel
theorem dX12_forge_167 : decode cX12_forge 167 = .ok (.iconst 1, 1) := by decide +kernel
theorem dX12_forge_168 : decode cX12_forge 168 = .ok (.if_icmp .eq 12, 3) := by decide +kernel
theorem dX12_forge_171 : decode cX12_forge 171 = .ok (.aload_n 0, 1) := by decide +kernel
theorem dX12_forge_172 : decode cX12_forge 172 = .ok (.bipush 11, 2) := by decide +kernel
theorem dX12_forge_174 : decode cX12_forge 174 = .ok (.invokevirtual 89, 3) := by decide +kernel
theorem dX12_forge_177 : decode cX12_forge 177 = .ok (.goto 43, 3) := by decide +kernel
theorem dX12_forge_180 : decode cX12_forge 180 = .ok (.iload_n 3, 1) := by decide +kernel
theorem dX12_forge_181 : decode cX12_forge 181 = .ok (.iconst 0, 1) := by decide +kernel
theorem dX12_forge_182 : decode cX12_forge 182 = .ok (.iconst 3, 1) := by decide +kernel
theorem dX12_forge_183 : decode cX12_forge 183 = .ok (.invokestatic 78, 3) := by decide +kernel
theorem dX12_forge_186 : decode cX12_forge 186 = .ok (.ifCond .eq 28, 3) := by decide +kernel
theorem dX12_forge_189 : decode cX12_forge 189 = .ok (.iconst 1, 1) := by decide +kernel
theorem dX12_forge_190 : decode cX12_forge 190 = .ok (.iload_n 3, 1) := by decide +kernel
theorem dX12_forge_191 : decode cX12_forge 191 = .ok (.iadd, 1) := by decide +kernel
theorem dX12_forge_192 : decode cX12_forge 192 = .ok (.aload_n 0, 1) := by decide +kernel
theorem dX12_forge_193 : decode cX12_forge 193 = .ok (.getfield 37, 3) := by decide +kernel
theorem dX12_forge_196 : decode cX12_forge 196 = .ok (.iload_n 1, 1) := by decide +kernel
theorem dX12_forge_197 : decode cX12_forge 197 = .ok (.iaload, 1) := by decide +kernel
theorem dX12_forge_198 : decode cX12_forge 198 = .ok (.if_icmp .gt 16, 3) := by decide +kernel
theorem dX12_forge_201 : decode cX12_forge 201 = .ok (.aload_n 0, 1) := by decide +kernel
theorem dX12_forge_202 : decode cX12_forge 202 = .ok (.aload_n 0, 1) := by decide +kernel
theorem dX12_forge_203 : decode cX12_forge 203 = .ok (.iload_n 1, 1) := by decide +kernel
theorem dX12_forge_204 : decode cX12_forge 204 = .ok (.iload_n 3, 1) := by decide +kernel
theorem dX12_forge_205 : decode cX12_forge 205 = .ok (.invokevirtual 227, 3) := by decide +kernel
theorem dX12_forge_208 : decode cX12_forge 208 = .ok (.invokevirtual 96, 3) := by decide +kernel
theorem dX12_forge_211 : decode cX12_forge 211 = .ok (.goto 9, 3) := by decide +kernel
theorem dX12_forge_214 : decode cX12_forge 214 = .ok (.aload_n 0, 1) := by decide +kernel
theorem dX12_forge_215 : decode cX12_forge 215 = .ok (.bipush 12, 2) := by decide +kernel
theorem dX12_forge_217 : decode cX12_forge 217 = .ok (.invokevirtual 89, 3) := by decide +kernel
theorem dX12_forge_220 : decode cX12_forge 220 = .ok (.ireturn, 1) := by decide +kernel
theorem dX12_forge_221 : decode cX12_forge 221 = .ok (.iload 4, 2) := by decide +kernel
theorem dX12_forge_223 : decode cX12_forge 223 = .ok (.iconst (-1), 1) := by decide +kernel
theorem dX12_forge_224 : decode cX12_forge 224 = .ok (.if_icmp .ne 11, 3) := by decide +kernel
theorem dX12_forge_227 : decode cX12_forge 227 = .ok (.aload_n 0, 1) := by decide +kernel
theorem dX12_forge_228 : decode cX12_forge 228 = .ok (.iconst 0, 1) := by decide +kernel
theorem dX12_forge_229 : decode cX12_forge 229 = .ok (.invokevirtual 96, 3) := by decide +kernel
theorem dX12_forge_232 : decode cX12_forge 232 = .ok (.goto 27, 3) := by decide +kernel
theorem dX12_forge_235 : decode cX12_forge 235 = .ok (.iload 4, 2) := by decide +kernel
theorem dX12_forge_237 : decode cX12_forge 237 = .ok (.ifCond .eq 12, 3) := by decide +kernel
theorem dX12_forge_240 : decode cX12_forge 240 = .ok (.aload_n 0, 1) := by decide +kernel
theorem dX12_forge_241 : decode cX12_forge 241 = .ok (.bipush 14, 2) := by decide +kernel
theorem dX12_forge_243 : decode cX12_forge 243 = .ok (.invokevirtual 89, 3) := by decide +kernel
theorem dX12_forge_246 : decode cX12_forge 246 = .ok (.goto 13, 3) := by decide +kernel
theorem dX12_forge_249 : decode cX12_forge 249 = .ok (.aload_n 0, 1) := by decide +kernel
theorem dX12_forge_250 : decode cX12_forge 250 = .ok (.aload_n 0, 1) := by decide +kernel
theorem dX12_forge_251 : decode cX12_forge 251 = .ok (.getfield 37, 3) := by decide +kernel
theorem dX12_forge_254 : decode cX12_forge 254 = .ok (.iload_n 1, 1) := by decide +kernel
theorem dX12_forge_255 : decode cX12_forge 255 = .ok (.iaload, 1) := by decide +kernel
theorem dX12_forge_256 : decode cX12_forge 256 = .ok (.invokevirtual 96, 3) := by decide +kernel
theorem dX12_forge_259 : decode cX12_forge 259 = .ok (.ireturn, 1) := by decide +kernel
theorem dX12_forge_260 : decode cX12_forge 260 = .ok (.iload_n 3, 1) := by decide +kernel
theorem dX12_forge_261 : decode cX12_forge 261 = .ok (.ifCond .ne 12, 3) := by decide +kernel
theorem dX12_forge_264 : decode cX12_forge 264 = .ok (.aload_n 0, 1) := by decide +kernel
theorem dX12_forge_265 : decode cX12_forge 265 = .ok (.bipush 15, 2) := by decide +kernel
theorem dX12_forge_267 : decode cX12_forge 267 = .ok (.invokevirtual 89, 3) := by decide +kernel
theorem dX12_forge_270 : decode cX12_forge 270 = .ok (.goto 12, 3) := by decide +kernel
theorem dX12_forge_273 : decode cX12_forge 273 = .ok (.aload_n 0, 1) := by decide +kernel
theorem dX12_forge_274 : decode cX12_forge 274 = .ok (.sipush 1000, 3) := by decide +kernel
theorem dX12_forge_277 : decode cX12_forge 277 = .ok (.iload_n 3, 1) := by decide +kernel
theorem dX12_forge_278 : decode cX12_forge 278 = .ok (.idiv, 1) := by decide +kernel
theorem dX12_forge_279 : decode cX12_forge 279 = .ok (.invokevirtual 96, 3) := by decide +kernel
theorem dX12_forge_282 : decode cX12_forge 282 = .ok (.ireturn, 1) := by decide +kernel
theorem dX12_forge_283 : decode cX12_forge 283 = .ok (.iload_n 3, 1) := by decide +kernel
theorem dX12_forge_284 : decode cX12_forge 284 = .ok (.iconst 1, 1) := by decide +kernel
theorem dX12_forge_285 : decode cX12_forge 285 = .ok (.iand, 1) := by decide +kernel
theorem dX12_forge_286 : decode cX12_forge 286 = .ok (.ifCond .ne 12, 3) := by decide +kernel
theorem dX12_forge_289 : decode cX12_forge 289 = .ok (.aload_n 0, 1) := by decide +kernel
theorem dX12_forge_290 : decode cX12_forge 290 = .ok (.bipush 10, 2) := by decide +kernel
theorem dX12_forge_292 : decode cX12_forge 292 = .ok (.invokevirtual 89, 3) := by decide +kernel
theorem dX12_forge_295 : decode cX12_forge 295 = .ok (.goto 8, 3) := by decide +kernel
theorem dX12_forge_298 : decode cX12_forge 298 = .ok (.aload_n 0, 1) := by decide +kernel
theorem dX12_forge_299 : decode cX12_forge 299 = .ok (.iconst 1, 1) := by decide +kernel
theorem dX12_forge_300 : decode cX12_forge 300 = .ok (.invokevirtual 96, 3) := by decide +kernel
theorem dX12_forge_303 : decode cX12_forge 303 = .ok (.ireturn, 1) := by decide +kernel
theorem dX12_forge_304 : decode cX12_forge 304 = .ok (.aload_n 0, 1) := by decide +kernel
theorem dX12_forge_305 : decode cX12_forge 305 = .ok (.iload_n 3, 1) := by decide +kernel
theorem dX12_forge_306 : decode cX12_forge 306 = .ok (.invokevirtual 230, 3) := by decide +kernel
theorem dX12_forge_309 : decode cX12_forge 309 = .ok (.ireturn, 1) := by decide +kernel
theorem dX12_status_0 : decode cX12_status 0 = .ok (.aload_n 0, 1) := by decide +kernel
theorem dX12_status_1 : decode cX12_status 1 = .ok (.getfield 71, 3) := by decide +kernel
theorem dX12_status_4 : decode cX12_status 4 = .ok (.ireturn, 1) := by decide +kernel
theorem dJ6_numberOfTrailingZeros_0f7a4_0 : decode cJ6_numberOfTrailingZeros_0f7a4 0 = .ok (.iload_n 0, 1) := by decide +kernel
theorem dJ6_numberOfTrailingZeros_0f7a4_1 : decode cJ6_numberOfTrailingZeros_0f7a4 1 = .ok (.iconst (-1), 1) := by decide +kernel
theorem dJ6_numberOfTrailingZeros_0f7a4_2 : decode cJ6_numberOfTrailingZeros_0f7a4 2 = .ok (.ixor, 1) := by decide +kernel
theorem dJ6_numberOfTrailingZeros_0f7a4_3 : decode cJ6_numberOfTrailingZeros_0f7a4 3 = .ok (.iload_n 0, 1) := by decide +kernel
theorem dJ6_numberOfTrailingZeros_0f7a4_4 : decode cJ6_numberOfTrailingZeros_0f7a4 4 = .ok (.iconst 1, 1) := by decide +kernel
theorem dJ6_numberOfTrailingZeros_0f7a4_5 : decode cJ6_numberOfTrailingZeros_0f7a4 5 = .ok (.isub, 1) := by decide +kernel
theorem dJ6_numberOfTrailingZeros_0f7a4_6 : decode cJ6_numberOfTrailingZeros_0f7a4 6 = .ok (.iand, 1) := by decide +kernel
theorem dJ6_numberOfTrailingZeros_0f7a4_7 : decode cJ6_numberOfTrailingZeros_0f7a4 7 = .ok (.istore_n 0, 1) := by decide +kernel
theorem dJ6_numberOfTrailingZeros_0f7a4_8 : decode cJ6_numberOfTrailingZeros_0f7a4 8 = .ok (.iload_n 0, 1) := by decide +kernel
theorem dJ6_numberOfTrailingZeros_0f7a4_9 : decode cJ6_numberOfTrailingZeros_0f7a4 9 = .ok (.ifCond .gt 8, 3) := by decide +kernel
theorem dJ6_numberOfTrailingZeros_0f7a4_12 : decode cJ6_numberOfTrailingZeros_0f7a4 12 = .ok (.iload_n 0, 1) := by decide +kernel
theorem dJ6_numberOfTrailingZeros_0f7a4_13 : decode cJ6_numberOfTrailingZeros_0f7a4 13 = .ok (.bipush 32, 2) := by decide +kernel
theorem dJ6_numberOfTrailingZeros_0f7a4_15 : decode cJ6_numberOfTrailingZeros_0f7a4 15 = .ok (.iand, 1) := by decide +kernel
theorem dJ6_numberOfTrailingZeros_0f7a4_16 : decode cJ6_numberOfTrailingZeros_0f7a4 16 = .ok (.ireturn, 1) := by decide +kernel
theorem dJ6_numberOfTrailingZeros_0f7a4_17 : decode cJ6_numberOfTrailingZeros_0f7a4 17 = .ok (.iconst 1, 1) := by decide +kernel
theorem dJ6_numberOfTrailingZeros_0f7a4_18 : decode cJ6_numberOfTrailingZeros_0f7a4 18 = .ok (.istore_n 1, 1) := by decide +kernel
theorem dJ6_numberOfTrailingZeros_0f7a4_19 : decode cJ6_numberOfTrailingZeros_0f7a4 19 = .ok (.iload_n 0, 1) := by decide +kernel
theorem dJ6_numberOfTrailingZeros_0f7a4_20 : decode cJ6_numberOfTrailingZeros_0f7a4 20 = .ok (.ldc_w 264, 3) := by decide +kernel
theorem dJ6_numberOfTrailingZeros_0f7a4_23 : decode cJ6_numberOfTrailingZeros_0f7a4 23 = .ok (.if_icmp .le 11, 3) := by decide +kernel
theorem dJ6_numberOfTrailingZeros_0f7a4_26 : decode cJ6_numberOfTrailingZeros_0f7a4 26 = .ok (.iinc 1 16, 3) := by decide +kernel
end
section
theorem dJ6_numberOfTrailingZeros_0f7a4_29 : decode cJ6_numberOfTrailingZeros_0f7a4 29 = .ok (.iload_n 0, 1) := by decide +kernel
theorem dJ6_numberOfTrailingZeros_0f7a4_30 : decode cJ6_numberOfTrailingZeros_0f7a4 30 = .ok (.bipush 16, 2) := by decide +kernel
theorem dJ6_numberOfTrailingZeros_0f7a4_32 : decode cJ6_numberOfTrailingZeros_0f7a4 32 = .ok (.iushr, 1) := by decide +kernel
theorem dJ6_numberOfTrailingZeros_0f7a4_33 : decode cJ6_numberOfTrailingZeros_0f7a4 33 = .ok (.istore_n 0, 1) := by decide +kernel
theorem dJ6_numberOfTrailingZeros_0f7a4_34 : decode cJ6_numberOfTrailingZeros_0f7a4 34 = .ok (.iload_n 0, 1) := by decide +kernel
theorem dJ6_numberOfTrailingZeros_0f7a4_35 : decode cJ6_numberOfTrailingZeros_0f7a4 35 = .ok (.sipush 256, 3) := by decide +kernel
theorem dJ6_numberOfTrailingZeros_0f7a4_38 : decode cJ6_numberOfTrailingZeros_0f7a4 38 = .ok (.if_icmp .le 11, 3) := by decide +kernel
theorem dJ6_numberOfTrailingZeros_0f7a4_41 : decode cJ6_numberOfTrailingZeros_0f7a4 41 = .ok (.iinc 1 8, 3) := by decide +kernel
theorem dJ6_numberOfTrailingZeros_0f7a4_44 : decode cJ6_numberOfTrailingZeros_0f7a4 44 = .ok (.iload_n 0, 1) := by decide +kernel
theorem dJ6_numberOfTrailingZeros_0f7a4_45 : decode cJ6_numberOfTrailingZeros_0f7a4 45 = .ok (.bipush 8, 2) := by decide +kernel
theorem dJ6_numberOfTrailingZeros_0f7a4_47 : decode cJ6_numberOfTrailingZeros_0f7a4 47 = .ok (.iushr, 1) := by decide +kernel
theorem dJ6_numberOfTrailingZeros_0f7a4_48 : decode cJ6_numberOfTrailingZeros_0f7a4 48 = .ok (.istore_n 0, 1) := by decide +kernel
theorem dJ6_numberOfTrailingZeros_0f7a4_49 : decode cJ6_numberOfTrailingZeros_0f7a4 49 = .ok (.iload_n 0, 1) := by decide +kernel
theorem dJ6_numberOfTrailingZeros_0f7a4_50 : decode cJ6_numberOfTrailingZeros_0f7a4 50 = .ok (.bipush 16, 2) := by decide +kernel
theorem dJ6_numberOfTrailingZeros_0f7a4_52 : decode cJ6_numberOfTrailingZeros_0f7a4 52 = .ok (.if_icmp .le 10, 3) := by decide +kernel
theorem dJ6_numberOfTrailingZeros_0f7a4_55 : decode cJ6_numberOfTrailingZeros_0f7a4 55 = .ok (.iinc 1 4, 3) := by decide +kernel
theorem dJ6_numberOfTrailingZeros_0f7a4_58 : decode cJ6_numberOfTrailingZeros_0f7a4 58 = .ok (.iload_n 0, 1) := by decide +kernel
theorem dJ6_numberOfTrailingZeros_0f7a4_59 : decode cJ6_numberOfTrailingZeros_0f7a4 59 = .ok (.iconst 4, 1) := by decide +kernel
theorem dJ6_numberOfTrailingZeros_0f7a4_60 : decode cJ6_numberOfTrailingZeros_0f7a4 60 = .ok (.iushr, 1) := by decide +kernel
theorem dJ6_numberOfTrailingZeros_0f7a4_61 : decode cJ6_numberOfTrailingZeros_0f7a4 61 = .ok (.istore_n 0, 1) := by decide +kernel
theorem dJ6_numberOfTrailingZeros_0f7a4_62 : decode cJ6_numberOfTrailingZeros_0f7a4 62 = .ok (.iload_n 0, 1) := by decide +kernel
theorem dJ6_numberOfTrailingZeros_0f7a4_63 : decode cJ6_numberOfTrailingZeros_0f7a4 63 = .ok (.iconst 4, 1) := by decide +kernel
theorem dJ6_numberOfTrailingZeros_0f7a4_64 : decode cJ6_numberOfTrailingZeros_0f7a4 64 = .ok (.if_icmp .le 10, 3) := by decide +kernel
theorem dJ6_numberOfTrailingZeros_0f7a4_67 : decode cJ6_numberOfTrailingZeros_0f7a4 67 = .ok (.iinc 1 2, 3) := by decide +kernel
theorem dJ6_numberOfTrailingZeros_0f7a4_70 : decode cJ6_numberOfTrailingZeros_0f7a4 70 = .ok (.iload_n 0, 1) := by decide +kernel
theorem dJ6_numberOfTrailingZeros_0f7a4_71 : decode cJ6_numberOfTrailingZeros_0f7a4 71 = .ok (.iconst 2, 1) := by decide +kernel
theorem dJ6_numberOfTrailingZeros_0f7a4_72 : decode cJ6_numberOfTrailingZeros_0f7a4 72 = .ok (.iushr, 1) := by decide +kernel
theorem dJ6_numberOfTrailingZeros_0f7a4_73 : decode cJ6_numberOfTrailingZeros_0f7a4 73 = .ok (.istore_n 0, 1) := by decide +kernel
theorem dJ6_numberOfTrailingZeros_0f7a4_74 : decode cJ6_numberOfTrailingZeros_0f7a4 74 = .ok (.iload_n 1, 1) := by decide +kernel
theorem dJ6_numberOfTrailingZeros_0f7a4_75 : decode cJ6_numberOfTrailingZeros_0f7a4 75 = .ok (.iload_n 0, 1) := by decide +kernel
theorem dJ6_numberOfTrailingZeros_0f7a4_76 : decode cJ6_numberOfTrailingZeros_0f7a4 76 = .ok (.iconst 1, 1) := by decide +kernel
theorem dJ6_numberOfTrailingZeros_0f7a4_77 : decode cJ6_numberOfTrailingZeros_0f7a4 77 = .ok (.iushr, 1) := by decide +kernel
theorem dJ6_numberOfTrailingZeros_0f7a4_78 : decode cJ6_numberOfTrailingZeros_0f7a4 78 = .ok (.iadd, 1) := by decide +kernel
theorem dJ6_numberOfTrailingZeros_0f7a4_79 : decode cJ6_numberOfTrailingZeros_0f7a4 79 = .ok (.ireturn, 1) := by decide +kernel
theorem dJ6_bitCount_0f7a4_0 : decode cJ6_bitCount_0f7a4 0 = .ok (.iload_n 0, 1) := by decide +kernel
theorem dJ6_bitCount_0f7a4_1 : decode cJ6_bitCount_0f7a4 1 = .ok (.iload_n 0, 1) := by decide +kernel
theorem dJ6_bitCount_0f7a4_2 : decode cJ6_bitCount_0f7a4 2 = .ok (.iconst 1, 1) := by decide +kernel
theorem dJ6_bitCount_0f7a4_3 : decode cJ6_bitCount_0f7a4 3 = .ok (.iushr, 1) := by decide +kernel
theorem dJ6_bitCount_0f7a4_4 : decode cJ6_bitCount_0f7a4 4 = .ok (.ldc_w 265, 3) := by decide +kernel
theorem dJ6_bitCount_0f7a4_7 : decode cJ6_bitCount_0f7a4 7 = .ok (.iand, 1) := by decide +kernel
theorem dJ6_bitCount_0f7a4_8 : decode cJ6_bitCount_0f7a4 8 = .ok (.isub, 1) := by decide +kernel
theorem dJ6_bitCount_0f7a4_9 : decode cJ6_bitCount_0f7a4 9 = .ok (.istore_n 0, 1) := by decide +kernel
theorem dJ6_bitCount_0f7a4_10 : decode cJ6_bitCount_0f7a4 10 = .ok (.iload_n 0, 1) := by decide +kernel
theorem dJ6_bitCount_0f7a4_11 : decode cJ6_bitCount_0f7a4 11 = .ok (.ldc_w 266, 3) := by decide +kernel
theorem dJ6_bitCount_0f7a4_14 : decode cJ6_bitCount_0f7a4 14 = .ok (.iand, 1) := by decide +kernel
theorem dJ6_bitCount_0f7a4_15 : decode cJ6_bitCount_0f7a4 15 = .ok (.iload_n 0, 1) := by decide +kernel
theorem dJ6_bitCount_0f7a4_16 : decode cJ6_bitCount_0f7a4 16 = .ok (.iconst 2, 1) := by decide +kernel
theorem dJ6_bitCount_0f7a4_17 : decode cJ6_bitCount_0f7a4 17 = .ok (.iushr, 1) := by decide +kernel
theorem dJ6_bitCount_0f7a4_18 : decode cJ6_bitCount_0f7a4 18 = .ok (.ldc_w 266, 3) := by decide +kernel
theorem dJ6_bitCount_0f7a4_21 : decode cJ6_bitCount_0f7a4 21 = .ok (.iand, 1) := by decide +kernel
theorem dJ6_bitCount_0f7a4_22 : decode cJ6_bitCount_0f7a4 22 = .ok (.iadd, 1) := by decide +kernel
theorem dJ6_bitCount_0f7a4_23 : decode cJ6_bitCount_0f7a4 23 = .ok (.istore_n 0, 1) := by decide +kernel
theorem dJ6_bitCount_0f7a4_24 : decode cJ6_bitCount_0f7a4 24 = .ok (.iload_n 0, 1) := by decide +kernel
theorem dJ6_bitCount_0f7a4_25 : decode cJ6_bitCount_0f7a4 25 = .ok (.iload_n 0, 1) := by decide +kernel
theorem dJ6_bitCount_0f7a4_26 : decode cJ6_bitCount_0f7a4 26 = .ok (.iconst 4, 1) := by decide +kernel
theorem dJ6_bitCount_0f7a4_27 : decode cJ6_bitCount_0f7a4 27 = .ok (.iushr, 1) := by decide +kernel
theorem dJ6_bitCount_0f7a4_28 : decode cJ6_bitCount_0f7a4 28 = .ok (.iadd, 1) := by decide +kernel
theorem dJ6_bitCount_0f7a4_29 : decode cJ6_bitCount_0f7a4 29 = .ok (.ldc_w 267, 3) := by decide +kernel
theorem dJ6_bitCount_0f7a4_32 : decode cJ6_bitCount_0f7a4 32 = .ok (.iand, 1) := by decide +kernel
theorem dJ6_bitCount_0f7a4_33 : decode cJ6_bitCount_0f7a4 33 = .ok (.istore_n 0, 1) := by decide +kernel
theorem dJ6_bitCount_0f7a4_34 : decode cJ6_bitCount_0f7a4 34 = .ok (.iload_n 0, 1) := by decide +kernel
theorem dJ6_bitCount_0f7a4_35 : decode cJ6_bitCount_0f7a4 35 = .ok (.iload_n 0, 1) := by decide +kernel
theorem dJ6_bitCount_0f7a4_36 : decode cJ6_bitCount_0f7a4 36 = .ok (.bipush 8, 2) := by decide +kernel
theorem dJ6_bitCount_0f7a4_38 : decode cJ6_bitCount_0f7a4 38 = .ok (.iushr, 1) := by decide +kernel
theorem dJ6_bitCount_0f7a4_39 : decode cJ6_bitCount_0f7a4 39 = .ok (.iadd, 1) := by decide +kernel
theorem dJ6_bitCount_0f7a4_40 : decode cJ6_bitCount_0f7a4 40 = .ok (.istore_n 0, 1) := by decide +kernel
theorem dJ6_bitCount_0f7a4_41 : decode cJ6_bitCount_0f7a4 41 = .ok (.iload_n 0, 1) := by decide +kernel
theorem dJ6_bitCount_0f7a4_42 : decode cJ6_bitCount_0f7a4 42 = .ok (.iload_n 0, 1) := by decide +kernel
theorem dJ6_bitCount_0f7a4_43 : decode cJ6_bitCount_0f7a4 43 = .ok (.bipush 16, 2) := by decide +kernel
theorem dJ6_bitCount_0f7a4_45 : decode cJ6_bitCount_0f7a4 45 = .ok (.iushr, 1) := by decide +kernel
theorem dJ6_bitCount_0f7a4_46 : decode cJ6_bitCount_0f7a4 46 = .ok (.iadd, 1) := by decide +kernel
theorem dJ6_bitCount_0f7a4_47 : decode cJ6_bitCount_0f7a4 47 = .ok (.istore_n 0, 1) := by decide +kernel
theorem dJ6_bitCount_0f7a4_48 : decode cJ6_bitCount_0f7a4 48 = .ok (.iload_n 0, 1) := by decide +kernel
theorem dJ6_bitCount_0f7a4_49 : decode cJ6_bitCount_0f7a4 49 = .ok (.bipush 63, 2) := by decide +kernel
theorem dJ6_bitCount_0f7a4_51 : decode cJ6_bitCount_0f7a4 51 = .ok (.iand, 1) := by decide +kernel
theorem dJ6_bitCount_0f7a4_52 : decode cJ6_bitCount_0f7a4 52 = .ok (.ireturn, 1) := by decide +kernel
theorem dJ9_floorMod_7cf53_0 : decode cJ9_floorMod_7cf53 0 = .ok (.iload_n 0, 1) := by decide +kernel
theorem dJ9_floorMod_7cf53_1 : decode cJ9_floorMod_7cf53 1 = .ok (.iload_n 1, 1) := by decide +kernel
theorem dJ9_floorMod_7cf53_2 : decode cJ9_floorMod_7cf53 2 = .ok (.irem, 1) := by decide +kernel
theorem dJ9_floorMod_7cf53_3 : decode cJ9_floorMod_7cf53 3 = .ok (.istore_n 2, 1) := by decide +kernel
theorem dJ9_floorMod_7cf53_4 : decode cJ9_floorMod_7cf53 4 = .ok (.iload_n 0, 1) := by decide +kernel
theorem dJ9_floorMod_7cf53_5 : decode cJ9_floorMod_7cf53 5 = .ok (.iload_n 1, 1) := by decide +kernel
theorem dJ9_floorMod_7cf53_6 : decode cJ9_floorMod_7cf53 6 = .ok (.ixor, 1) := by decide +kernel
theorem dJ9_floorMod_7cf53_7 : decode cJ9_floorMod_7cf53 7 = .ok (.ifCond .ge 11, 3) := by decide +kernel
theorem dJ9_floorMod_7cf53_10 : decode cJ9_floorMod_7cf53 10 = .ok (.iload_n 2, 1) := by decide +kernel
theorem dJ9_floorMod_7cf53_11 : decode cJ9_floorMod_7cf53 11 = .ok (.ifCond .eq 7, 3) := by decide +kernel
theorem dJ9_floorMod_7cf53_14 : decode cJ9_floorMod_7cf53 14 = .ok (.iload_n 2, 1) := by decide +kernel
theorem dJ9_floorMod_7cf53_15 : decode cJ9_floorMod_7cf53 15 = .ok (.iload_n 1, 1) := by decide +kernel
theorem dJ9_floorMod_7cf53_16 : decode cJ9_floorMod_7cf53 16 = .ok (.iadd, 1) := by decide +kernel
theorem dJ9_floorMod_7cf53_17 : decode cJ9_floorMod_7cf53 17 = .ok (.ireturn, 1) := by decide +kernel
theorem dJ9_floorMod_7cf53_18 : decode cJ9_floorMod_7cf53 18 = .ok (.iload_n 2, 1) := by decide +kernel
theorem dJ9_floorMod_7cf53_19 : decode cJ9_floorMod_7cf53 19 = .ok (.ireturn, 1) := by decide +kernel
theorem dJ9_max_7cf53_0 : decode cJ9_max_7cf53 0 = .ok (.iload_n 0, 1) := by decide +kernel
theorem dJ9_max_7cf53_1 : decode cJ9_max_7cf53 1 = .ok (.iload_n 1, 1) := by decide +kernel
theorem dJ9_max_7cf53_2 : decode cJ9_max_7cf53 2 = .ok (.if_icmp .lt 7, 3) := by decide +kernel
theorem dJ9_max_7cf53_5 : decode cJ9_max_7cf53 5 = .ok (.iload_n 0, 1) := by decide +kernel
theorem dJ9_max_7cf53_6 : decode cJ9_max_7cf53 6 = .ok (.goto 4, 3) := by decide +kernel
theorem dJ9_max_7cf53_9 : decode cJ9_max_7cf53 9 = .ok (.iload_n 1, 1) := by decide +kernel
theorem dJ9_max_7cf53_10 : decode cJ9_max_7cf53 10 = .ok (.ireturn, 1) := by decide +kernel
theorem dJ9_min_7cf53_0 : decode cJ9_min_7cf53 0 = .ok (.iload_n 0, 1) := by decide +kernel
theorem dJ9_min_7cf53_1 : decode cJ9_min_7cf53 1 = .ok (.iload_n 1, 1) := by decide +kernel
theorem dJ9_min_7cf53_2 : decode cJ9_min_7cf53 2 = .ok (.if_icmp .gt 7, 3) := by decide +kernel
theorem dJ9_min_7cf53_5 : decode cJ9_min_7cf53 5 = .ok (.iload_n 0, 1) := by decide +kernel
theorem dJ9_min_7cf53_6 : decode cJ9_min_7cf53 6 = .ok (.goto 4, 3) := by decide +kernel
theorem dJ9_min_7cf53_9 : decode cJ9_min_7cf53 9 = .ok (.iload_n 1, 1) := by decide +kernel
theorem dJ9_min_7cf53_10 : decode cJ9_min_7cf53 10 = .ok (.ireturn, 1) := by decide +kernel
theorem dL_law_0 : decode cL_law 0 = .ok (.new 7, 3) := by decide +kernel
theorem dL_law_3 : decode cL_law 3 = .ok (.dup, 1) := by decide +kernel
theorem dL_law_4 : decode cL_law 4 = .ok (.invokespecial 9, 3) := by decide +kernel
theorem dL_law_7 : decode cL_law 7 = .ok (.astore_n 1, 1) := by decide +kernel
theorem dL_law_8 : decode cL_law 8 = .ok (.new 10, 3) := by decide +kernel
theorem dL_law_11 : decode cL_law 11 = .ok (.dup, 1) := by decide +kernel
theorem dL_law_12 : decode cL_law 12 = .ok (.invokespecial 12, 3) := by decide +kernel
theorem dL_law_15 : decode cL_law 15 = .ok (.astore_n 2, 1) := by decide +kernel
theorem dL_law_16 : decode cL_law 16 = .ok (.iconst 0, 1) := by decide +kernel
theorem dL_law_17 : decode cL_law 17 = .ok (.istore_n 3, 1) := by decide +kernel
theorem dL_law_18 : decode cL_law 18 = .ok (.iload_n 3, 1) := by decide +kernel
theorem dL_law_19 : decode cL_law 19 = .ok (.aload_n 0, 1) := by decide +kernel
theorem dL_law_20 : decode cL_law 20 = .ok (.arraylength, 1) := by decide +kernel
theorem dL_law_21 : decode cL_law 21 = .ok (.iconst 4, 1) := by decide +kernel
theorem dL_law_22 : decode cL_law 22 = .ok (.isub, 1) := by decide +kernel
theorem dL_law_23 : decode cL_law 23 = .ok (.if_icmp .gt 914, 3) := by decide +kernel
theorem dL_law_26 : decode cL_law 26 = .ok (.aload_n 0, 1) := by decide +kernel
theorem dL_law_27 : decode cL_law 27 = .ok (.iload_n 3, 1) := by decide +kernel
theorem dL_law_28 : decode cL_law 28 = .ok (.iaload, 1) := by decide +kernel
theorem dL_law_29 : decode cL_law 29 = .ok (.bipush 31, 2) := by decide +kernel
theorem dL_law_31 : decode cL_law 31 = .ok (.iand, 1) := by decide +kernel
theorem dL_law_32 : decode cL_law 32 = .ok (.tableswitch 899 0 28 #[132, 165, 208, 241, 274, 297, 310, 343, 376, 399, 412, 435, 448, 471, 504, 517, 540, 553, 586, 599, 622, 635, 678, 701, 744, 787, 830, 873, 886], 132) := by decide +kernel
theorem dL_law_164 : decode cL_law 164 = .ok (.aload_n 1, 1) := by decide +kernel
theorem dL_law_165 : decode cL_law 165 = .ok (.aload_n 0, 1) := by decide +kernel
theorem dL_law_166 : decode cL_law 166 = .ok (.iload_n 3, 1) := by decide +kernel
theorem dL_law_167 : decode cL_law 167 = .ok (.iconst 1, 1) := by decide +kernel
theorem dL_law_168 : decode cL_law 168 = .ok (.iadd, 1) := by decide +kernel
theorem dL_law_169 : decode cL_law 169 = .ok (.iaload, 1) := by decide +kernel
theorem dL_law_170 : decode cL_law 170 = .ok (.aload_n 0, 1) := by decide +kernel
theorem dL_law_171 : decode cL_law 171 = .ok (.iload_n 3, 1) := by decide +kernel
theorem dL_law_172 : decode cL_law 172 = .ok (.iconst 2, 1) := by decide +kernel
theorem dL_law_173 : decode cL_law 173 = .ok (.iadd, 1) := by decide +kernel
theorem dL_law_174 : decode cL_law 174 = .ok (.iaload, 1) := by decide +kernel
theorem dL_law_175 : decode cL_law 175 = .ok (.invokevirtual 13, 3) := by decide +kernel
theorem dL_law_178 : decode cL_law 178 = .ok (.aload_n 2, 1) := by decide +kernel
theorem dL_law_179 : decode cL_law 179 = .ok (.aload_n 0, 1) := by decide +kernel
theorem dL_law_180 : decode cL_law 180 = .ok (.iload_n 3, 1) := by decide +kernel
theorem dL_law_181 : decode cL_law 181 = .ok (.iconst 1, 1) := by decide +kernel
theorem dL_law_182 : decode cL_law 182 = .ok (.iadd, 1) := by decide +kernel
theorem dL_law_183 : decode cL_law 183 = .ok (.iaload, 1) := by decide +kernel
theorem dL_law_184 : decode cL_law 184 = .ok (.aload_n 0, 1) := by decide +kernel
theorem dL_law_185 : decode cL_law 185 = .ok (.iload_n 3, 1) := by decide +kernel
theorem dL_law_186 : decode cL_law 186 = .ok (.iconst 2, 1) := by decide +kernel
theorem dL_law_187 : decode cL_law 187 = .ok (.iadd, 1) := by decide +kernel
theorem dL_law_188 : decode cL_law 188 = .ok (.iaload, 1) := by decide +kernel
theorem dL_law_189 : decode cL_law 189 = .ok (.invokevirtual 17, 3) := by decide +kernel
theorem dL_law_192 : decode cL_law 192 = .ok (.if_icmp .eq 739, 3) := by decide +kernel
theorem dL_law_195 : decode cL_law 195 = .ok (.iconst 0, 1) := by decide +kernel
theorem dL_law_196 : decode cL_law 196 = .ok (.ireturn, 1) := by decide +kernel
theorem dL_law_197 : decode cL_law 197 = .ok (.aload_n 1, 1) := by decide +kernel
theorem dL_law_198 : decode cL_law 198 = .ok (.aload_n 0, 1) := by decide +kernel
theorem dL_law_199 : decode cL_law 199 = .ok (.iload_n 3, 1) := by decide +kernel
theorem dL_law_200 : decode cL_law 200 = .ok (.iconst 1, 1) := by decide +kernel
theorem dL_law_201 : decode cL_law 201 = .ok (.iadd, 1) := by decide +kernel
theorem dL_law_202 : decode cL_law 202 = .ok (.iaload, 1) := by decide +kernel
theorem dL_law_203 : decode cL_law 203 = .ok (.aload_n 0, 1) := by decide +kernel
theorem dL_law_204 : decode cL_law 204 = .ok (.iload_n 3, 1) := by decide +kernel
theorem dL_law_205 : decode cL_law 205 = .ok (.iconst 2, 1) := by decide +kernel
theorem dL_law_206 : decode cL_law 206 = .ok (.iadd, 1) := by decide +kernel
theorem dL_law_207 : decode cL_law 207 = .ok (.iaload, 1) := by decide +kernel
theorem dL_law_208 : decode cL_law 208 = .ok (.aload_n 0, 1) := by decide +kernel
theorem dL_law_209 : decode cL_law 209 = .ok (.iload_n 3, 1) := by decide +kernel
theorem dL_law_210 : decode cL_law 210 = .ok (.iconst 3, 1) := by decide +kernel
theorem dL_law_211 : decode cL_law 211 = .ok (.iadd, 1) := by decide +kernel
theorem dL_law_212 : decode cL_law 212 = .ok (.iaload, 1) := by decide +kernel
theorem dL_law_213 : decode cL_law 213 = .ok (.invokevirtual 18, 3) := by decide +kernel
theorem dL_law_216 : decode cL_law 216 = .ok (.aload_n 2, 1) := by decide +kernel
theorem dL_law_217 : decode cL_law 217 = .ok (.aload_n 0, 1) := by decide +kernel
theorem dL_law_218 : decode cL_law 218 = .ok (.iload_n 3, 1) := by decide +kernel
theorem dL_law_219 : decode cL_law 219 = .ok (.iconst 1, 1) := by decide +kernel
theorem dL_law_220 : decode cL_law 220 = .ok (.iadd, 1) := by decide +kernel
theorem dL_law_221 : decode cL_law 221 = .ok (.iaload, 1) := by decide +kernel
theorem dL_law_222 : decode cL_law 222 = .ok (.aload_n 0, 1) := by decide +kernel
theorem dL_law_223 : decode cL_law 223 = .ok (.iload_n 3, 1) := by decide +kernel
theorem dL_law_224 : decode cL_law 224 = .ok (.iconst 2, 1) := by decide +kernel
theorem dL_law_225 : decode cL_law 225 = .ok (.iadd, 1) := by decide +kernel
theorem dL_law_226 : decode cL_law 226 = .ok (.iaload, 1) := by decide +kernel
theorem dL_law_227 : decode cL_law 227 = .ok (.aload_n 0, 1) := by decide +kernel
theorem dL_law_228 : decode cL_law 228 = .ok (.iload_n 3, 1) := by decide +kernel
theorem dL_law_229 : decode cL_law 229 = .ok (.iconst 3, 1) := by decide +kernel
theorem dL_law_230 : decode cL_law 230 = .ok (.iadd, 1) := by decide +kernel
theorem dL_law_231 : decode cL_law 231 = .ok (.iaload, 1) := by decide +kernel
theorem dL_law_232 : decode cL_law 232 = .ok (.invokevirtual 22, 3) := by decide +kernel
theorem dL_law_235 : decode cL_law 235 = .ok (.if_icmp .eq 696, 3) := by decide +kernel
theorem dL_law_238 : decode cL_law 238 = .ok (.iconst 0, 1) := by decide +kernel
theorem dL_law_239 : decode cL_law 239 = .ok (.ireturn, 1) := by decide +kernel
theorem dL_law_240 : decode cL_law 240 = .ok (.aload_n 1, 1) := by decide +kernel
theorem dL_law_241 : decode cL_law 241 = .ok (.aload_n 0, 1) := by decide +kernel
theorem dL_law_242 : decode cL_law 242 = .ok (.iload_n 3, 1) := by decide +kernel
theorem dL_law_243 : decode cL_law 243 = .ok (.iconst 1, 1) := by decide +kernel
theorem dL_law_244 : decode cL_law 244 = .ok (.iadd, 1) := by decide +kernel
theorem dL_law_245 : decode cL_law 245 = .ok (.iaload, 1) := by decide +kernel
theorem dL_law_246 : decode cL_law 246 = .ok (.aload_n 0, 1) := by decide +kernel
theorem dL_law_247 : decode cL_law 247 = .ok (.iload_n 3, 1) := by decide +kernel
theorem dL_law_248 : decode cL_law 248 = .ok (.iconst 2, 1) := by decide +kernel
theorem dL_law_249 : decode cL_law 249 = .ok (.iadd, 1) := by decide +kernel
theorem dL_law_250 : decode cL_law 250 = .ok (.iaload, 1) := by decide +kernel
theorem dL_law_251 : decode cL_law 251 = .ok (.invokevirtual 23, 3) := by decide +kernel
theorem dL_law_254 : decode cL_law 254 = .ok (.aload_n 2, 1) := by decide +kernel
theorem dL_law_255 : decode cL_law 255 = .ok (.aload_n 0, 1) := by decide +kernel
theorem dL_law_256 : decode cL_law 256 = .ok (.iload_n 3, 1) := by decide +kernel
theorem dL_law_257 : decode cL_law 257 = .ok (.iconst 1, 1) := by decide +kernel
theorem dL_law_258 : decode cL_law 258 = .ok (.iadd, 1) := by decide +kernel
theorem dL_law_259 : decode cL_law 259 = .ok (.iaload, 1) := by decide +kernel
theorem dL_law_260 : decode cL_law 260 = .ok (.aload_n 0, 1) := by decide +kernel
theorem dL_law_261 : decode cL_law 261 = .ok (.iload_n 3, 1) := by decide +kernel
theorem dL_law_262 : decode cL_law 262 = .ok (.iconst 2, 1) := by decide +kernel
theorem dL_law_263 : decode cL_law 263 = .ok (.iadd, 1) := by decide +kernel
theorem dL_law_264 : decode cL_law 264 = .ok (.iaload, 1) := by decide +kernel
theorem dL_law_265 : decode cL_law 265 = .ok (.invokevirtual 26, 3) := by decide +kernel
theorem dL_law_268 : decode cL_law 268 = .ok (.if_icmp .eq 663, 3) := by decide +kernel
theorem dL_law_271 : decode cL_law 271 = .ok (.iconst 0, 1) := by decide +kernel
theorem dL_law_272 : decode cL_law 272 = .ok (.ireturn, 1) := by decide +kernel
theorem dL_law_273 : decode cL_law 273 = .ok (.aload_n 1, 1) := by decide +kernel
theorem dL_law_274 : decode cL_law 274 = .ok (.aload_n 0, 1) := by decide +kernel
theorem dL_law_275 : decode cL_law 275 = .ok (.iload_n 3, 1) := by decide +kernel
theorem dL_law_276 : decode cL_law 276 = .ok (.iconst 1, 1) := by decide +kernel
theorem dL_law_277 : decode cL_law 277 = .ok (.iadd, 1) := by decide +kernel
theorem dL_law_278 : decode cL_law 278 = .ok (.iaload, 1) := by decide +kernel
theorem dL_law_279 : decode cL_law 279 = .ok (.aload_n 0, 1) := by decide +kernel
theorem dL_law_280 : decode cL_law 280 = .ok (.iload_n 3, 1) := by decide +kernel
theorem dL_law_281 : decode cL_law 281 = .ok (.iconst 2, 1) := by decide +kernel
theorem dL_law_282 : decode cL_law 282 = .ok (.iadd, 1) := by decide +kernel
theorem dL_law_283 : decode cL_law 283 = .ok (.iaload, 1) := by decide +kernel
theorem dL_law_284 : decode cL_law 284 = .ok (.invokevirtual 27, 3) := by decide +kernel
theorem dL_law_287 : decode cL_law 287 = .ok (.aload_n 2, 1) := by decide +kernel
theorem dL_law_288 : decode cL_law 288 = .ok (.aload_n 0, 1) := by decide +kernel
theorem dL_law_289 : decode cL_law 289 = .ok (.iload_n 3, 1) := by decide +kernel
theorem dL_law_290 : decode cL_law 290 = .ok (.iconst 1, 1) := by decide +kernel
theorem dL_law_291 : decode cL_law 291 = .ok (.iadd, 1) := by decide +kernel
theorem dL_law_292 : decode cL_law 292 = .ok (.iaload, 1) := by decide +kernel
theorem dL_law_293 : decode cL_law 293 = .ok (.aload_n 0, 1) := by decide +kernel
theorem dL_law_294 : decode cL_law 294 = .ok (.iload_n 3, 1) := by decide +kernel
theorem dL_law_295 : decode cL_law 295 = .ok (.iconst 2, 1) := by decide +kernel
theorem dL_law_296 : decode cL_law 296 = .ok (.iadd, 1) := by decide +kernel
theorem dL_law_297 : decode cL_law 297 = .ok (.iaload, 1) := by decide +kernel
theorem dL_law_298 : decode cL_law 298 = .ok (.invokevirtual 30, 3) := by decide +kernel
theorem dL_law_301 : decode cL_law 301 = .ok (.if_icmp .eq 630, 3) := by decide +kernel
theorem dL_law_304 : decode cL_law 304 = .ok (.iconst 0, 1) := by decide +kernel
theorem dL_law_305 : decode cL_law 305 = .ok (.ireturn, 1) := by decide +kernel
theorem dL_law_306 : decode cL_law 306 = .ok (.aload_n 1, 1) := by decide +kernel
theorem dL_law_307 : decode cL_law 307 = .ok (.aload_n 0, 1) := by decide +kernel
theorem dL_law_308 : decode cL_law 308 = .ok (.iload_n 3, 1) := by decide +kernel
theorem dL_law_309 : decode cL_law 309 = .ok (.iconst 1, 1) := by decide +kernel
theorem dL_law_310 : decode cL_law 310 = .ok (.iadd, 1) := by decide +kernel
theorem dL_law_311 : decode cL_law 311 = .ok (.iaload, 1) := by decide +kernel
theorem dL_law_312 : decode cL_law 312 = .ok (.invokevirtual 31, 3) := by decide +kernel
theorem dL_law_315 : decode cL_law 315 = .ok (.aload_n 2, 1) := by decide +kernel
theorem dL_law_316 : decode cL_law 316 = .ok (.aload_n 0, 1) := by decide +kernel
theorem dL_law_317 : decode cL_law 317 = .ok (.iload_n 3, 1) := by decide +kernel
theorem dL_law_318 : decode cL_law 318 = .ok (.iconst 1, 1) := by decide +kernel
theorem dL_law_319 : decode cL_law 319 = .ok (.iadd, 1) := by decide +kernel
theorem dL_law_320 : decode cL_law 320 = .ok (.iaload, 1) := by decide +kernel
theorem dL_law_321 : decode cL_law 321 = .ok (.invokevirtual 35, 3) := by decide +kernel
theorem dL_law_324 : decode cL_law 324 = .ok (.if_icmp .eq 607, 3) := by decide +kernel
theorem dL_law_327 : decode cL_law 327 = .ok (.iconst 0, 1) := by decide +kernel
theorem dL_law_328 : decode cL_law 328 = .ok (.ireturn, 1) := by decide +kernel
theorem dL_law_329 : decode cL_law 329 = .ok (.aload_n 1, 1) := by decide +kernel
theorem dL_law_330 : decode cL_law 330 = .ok (.invokevirtual 36, 3) := by decide +kernel
theorem dL_law_333 : decode cL_law 333 = .ok (.aload_n 2, 1) := by decide +kernel
theorem dL_law_334 : decode cL_law 334 = .ok (.invokevirtual 40, 3) := by decide +kernel
theorem dL_law_337 : decode cL_law 337 = .ok (.if_icmp .eq 594, 3) := by decide +kernel
theorem dL_law_340 : decode cL_law 340 = .ok (.iconst 0, 1) := by decide +kernel
theorem dL_law_341 : decode cL_law 341 = .ok (.ireturn, 1) := by decide +kernel
theorem dL_law_342 : decode cL_law 342 = .ok (.aload_n 1, 1) := by decide +kernel
theorem dL_law_343 : decode cL_law 343 = .ok (.aload_n 0, 1) := by decide +kernel
theorem dL_law_344 : decode cL_law 344 = .ok (.iload_n 3, 1) := by decide +kernel
theorem dL_law_345 : decode cL_law 345 = .ok (.iconst 1, 1) := by decide +kernel
theorem dL_law_346 : decode cL_law 346 = .ok (.iadd, 1) := by decide +kernel
theorem dL_law_347 : decode cL_law 347 = .ok (.iaload, 1) := by decide +kernel
theorem dL_law_348 : decode cL_law 348 = .ok (.aload_n 0, 1) := by decide +kernel
theorem dL_law_349 : decode cL_law 349 = .ok (.iload_n 3, 1) := by decide +kernel
theorem dL_law_350 : decode cL_law 350 = .ok (.iconst 2, 1) := by decide +kernel
theorem dL_law_351 : decode cL_law 351 = .ok (.iadd, 1) := by decide +kernel
theorem dL_law_352 : decode cL_law 352 = .ok (.iaload, 1) := by decide +kernel
theorem dL_law_353 : decode cL_law 353 = .ok (.invokevirtual 41, 3) := by decide +kernel
theorem dL_law_356 : decode cL_law 356 = .ok (.aload_n 2, 1) := by decide +kernel
theorem dL_law_357 : decode cL_law 357 = .ok (.aload_n 0, 1) := by decide +kernel
theorem dL_law_358 : decode cL_law 358 = .ok (.iload_n 3, 1) := by decide +kernel
theorem dL_law_359 : decode cL_law 359 = .ok (.iconst 1, 1) := by decide +kernel
theorem dL_law_360 : decode cL_law 360 = .ok (.iadd, 1) := by decide +kernel
theorem dL_law_361 : decode cL_law 361 = .ok (.iaload, 1) := by decide +kernel
theorem dL_law_362 : decode cL_law 362 = .ok (.aload_n 0, 1) := by decide +kernel
theorem dL_law_363 : decode cL_law 363 = .ok (.iload_n 3, 1) := by decide +kernel
theorem dL_law_364 : decode cL_law 364 = .ok (.iconst 2, 1) := by decide +kernel
theorem dL_law_365 : decode cL_law 365 = .ok (.iadd, 1) := by decide +kernel
theorem dL_law_366 : decode cL_law 366 = .ok (.iaload, 1) := by decide +kernel
theorem dL_law_367 : decode cL_law 367 = .ok (.invokevirtual 44, 3) := by decide +kernel
theorem dL_law_370 : decode cL_law 370 = .ok (.if_icmp .eq 561, 3) := by decide +kernel
theorem dL_law_373 : decode cL_law 373 = .ok (.iconst 0, 1) := by decide +kernel
theorem dL_law_374 : decode cL_law 374 = .ok (.ireturn, 1) := by decide +kernel
theorem dL_law_375 : decode cL_law 375 = .ok (.aload_n 1, 1) := by decide +kernel
theorem dL_law_376 : decode cL_law 376 = .ok (.aload_n 0, 1) := by decide +kernel
theorem dL_law_377 : decode cL_law 377 = .ok (.iload_n 3, 1) := by decide +kernel
theorem dL_law_378 : decode cL_law 378 = .ok (.iconst 1, 1) := by decide +kernel
theorem dL_law_379 : decode cL_law 379 = .ok (.iadd, 1) := by decide +kernel
theorem dL_law_380 : decode cL_law 380 = .ok (.iaload, 1) := by decide +kernel
theorem dL_law_381 : decode cL_law 381 = .ok (.aload_n 0, 1) := by decide +kernel
theorem dL_law_382 : decode cL_law 382 = .ok (.iload_n 3, 1) := by decide +kernel
theorem dL_law_383 : decode cL_law 383 = .ok (.iconst 2, 1) := by decide +kernel
theorem dL_law_384 : decode cL_law 384 = .ok (.iadd, 1) := by decide +kernel
theorem dL_law_385 : decode cL_law 385 = .ok (.iaload, 1) := by decide +kernel
theorem dL_law_386 : decode cL_law 386 = .ok (.invokevirtual 45, 3) := by decide +kernel
theorem dL_law_389 : decode cL_law 389 = .ok (.aload_n 2, 1) := by decide +kernel
theorem dL_law_390 : decode cL_law 390 = .ok (.aload_n 0, 1) := by decide +kernel
theorem dL_law_391 : decode cL_law 391 = .ok (.iload_n 3, 1) := by decide +kernel
theorem dL_law_392 : decode cL_law 392 = .ok (.iconst 1, 1) := by decide +kernel
theorem dL_law_393 : decode cL_law 393 = .ok (.iadd, 1) := by decide +kernel
theorem dL_law_394 : decode cL_law 394 = .ok (.iaload, 1) := by decide +kernel
theorem dL_law_395 : decode cL_law 395 = .ok (.aload_n 0, 1) := by decide +kernel
theorem dL_law_396 : decode cL_law 396 = .ok (.iload_n 3, 1) := by decide +kernel
theorem dL_law_397 : decode cL_law 397 = .ok (.iconst 2, 1) := by decide +kernel
theorem dL_law_398 : decode cL_law 398 = .ok (.iadd, 1) := by decide +kernel
theorem dL_law_399 : decode cL_law 399 = .ok (.iaload, 1) := by decide +kernel
theorem dL_law_400 : decode cL_law 400 = .ok (.invokevirtual 48, 3) := by decide +kernel
theorem dL_law_403 : decode cL_law 403 = .ok (.if_icmp .eq 528, 3) := by decide +kernel
theorem dL_law_406 : decode cL_law 406 = .ok (.iconst 0, 1) := by decide +kernel
theorem dL_law_407 : decode cL_law 407 = .ok (.ireturn, 1) := by decide +kernel
theorem dL_law_408 : decode cL_law 408 = .ok (.aload_n 1, 1) := by decide +kernel
theorem dL_law_409 : decode cL_law 409 = .ok (.aload_n 0, 1) := by decide +kernel
theorem dL_law_410 : decode cL_law 410 = .ok (.iload_n 3, 1) := by decide +kernel
theorem dL_law_411 : decode cL_law 411 = .ok (.iconst 1, 1) := by decide +kernel
theorem dL_law_412 : decode cL_law 412 = .ok (.iadd, 1) := by decide +kernel
theorem dL_law_413 : decode cL_law 413 = .ok (.iaload, 1) := by decide +kernel
theorem dL_law_414 : decode cL_law 414 = .ok (.invokevirtual 49, 3) := by decide +kernel
theorem dL_law_417 : decode cL_law 417 = .ok (.aload_n 2, 1) := by decide +kernel
theorem dL_law_418 : decode cL_law 418 = .ok (.aload_n 0, 1) := by decide +kernel
theorem dL_law_419 : decode cL_law 419 = .ok (.iload_n 3, 1) := by decide +kernel
theorem dL_law_420 : decode cL_law 420 = .ok (.iconst 1, 1) := by decide +kernel
theorem dL_law_421 : decode cL_law 421 = .ok (.iadd, 1) := by decide +kernel
theorem dL_law_422 : decode cL_law 422 = .ok (.iaload, 1) := by decide +kernel
theorem dL_law_423 : decode cL_law 423 = .ok (.invokevirtual 52, 3) := by decide +kernel
theorem dL_law_426 : decode cL_law 426 = .ok (.if_icmp .eq 505, 3) := by decide +kernel
theorem dL_law_429 : decode cL_law 429 = .ok (.iconst 0, 1) := by decide +kernel
theorem dL_law_430 : decode cL_law 430 = .ok (.ireturn, 1) := by decide +kernel
theorem dL_law_431 : decode cL_law 431 = .ok (.aload_n 1, 1) := by decide +kernel
theorem dL_law_432 : decode cL_law 432 = .ok (.invokevirtual 53, 3) := by decide +kernel
theorem dL_law_435 : decode cL_law 435 = .ok (.aload_n 2, 1) := by decide +kernel
theorem dL_law_436 : decode cL_law 436 = .ok (.invokevirtual 56, 3) := by decide +kernel
theorem dL_law_439 : decode cL_law 439 = .ok (.if_icmp .eq 492, 3) := by decide +kernel
theorem dL_law_442 : decode cL_law 442 = .ok (.iconst 0, 1) := by decide +kernel
theorem dL_law_443 : decode cL_law 443 = .ok (.ireturn, 1) := by decide +kernel
theorem dL_law_444 : decode cL_law 444 = .ok (.aload_n 1, 1) := by decide +kernel
theorem dL_law_445 : decode cL_law 445 = .ok (.aload_n 0, 1) := by decide +kernel
theorem dL_law_446 : decode cL_law 446 = .ok (.iload_n 3, 1) := by decide +kernel
theorem dL_law_447 : decode cL_law 447 = .ok (.iconst 1, 1) := by decide +kernel
theorem dL_law_448 : decode cL_law 448 = .ok (.iadd, 1) := by decide +kernel
theorem dL_law_449 : decode cL_law 449 = .ok (.iaload, 1) := by decide +kernel
theorem dL_law_450 : decode cL_law 450 = .ok (.invokevirtual 57, 3) := by decide +kernel
theorem dL_law_453 : decode cL_law 453 = .ok (.aload_n 2, 1) := by decide +kernel
theorem dL_law_454 : decode cL_law 454 = .ok (.aload_n 0, 1) := by decide +kernel
theorem dL_law_455 : decode cL_law 455 = .ok (.iload_n 3, 1) := by decide +kernel
theorem dL_law_456 : decode cL_law 456 = .ok (.iconst 1, 1) := by decide +kernel
theorem dL_law_457 : decode cL_law 457 = .ok (.iadd, 1) := by decide +kernel
theorem dL_law_458 : decode cL_law 458 = .ok (.iaload, 1) := by decide +kernel
theorem dL_law_459 : decode cL_law 459 = .ok (.invokevirtual 60, 3) := by decide +kernel
theorem dL_law_462 : decode cL_law 462 = .ok (.if_icmp .eq 469, 3) := by decide +kernel
theorem dL_law_465 : decode cL_law 465 = .ok (.iconst 0, 1) := by decide +kernel
theorem dL_law_466 : decode cL_law 466 = .ok (.ireturn, 1) := by decide +kernel
theorem dL_law_467 : decode cL_law 467 = .ok (.aload_n 1, 1) := by decide +kernel
theorem dL_law_468 : decode cL_law 468 = .ok (.invokevirtual 61, 3) := by decide +kernel
theorem dL_law_471 : decode cL_law 471 = .ok (.aload_n 2, 1) := by decide +kernel
theorem dL_law_472 : decode cL_law 472 = .ok (.invokevirtual 64, 3) := by decide +kernel
theorem dL_law_475 : decode cL_law 475 = .ok (.if_icmp .eq 456, 3) := by decide +kernel
theorem dL_law_478 : decode cL_law 478 = .ok (.iconst 0, 1) := by decide +kernel
theorem dL_law_479 : decode cL_law 479 = .ok (.ireturn, 1) := by decide +kernel
theorem dL_law_480 : decode cL_law 480 = .ok (.aload_n 1, 1) := by decide +kernel
theorem dL_law_481 : decode cL_law 481 = .ok (.aload_n 0, 1) := by decide +kernel
theorem dL_law_482 : decode cL_law 482 = .ok (.iload_n 3, 1) := by decide +kernel
theorem dL_law_483 : decode cL_law 483 = .ok (.iconst 1, 1) := by decide +kernel
theorem dL_law_484 : decode cL_law 484 = .ok (.iadd, 1) := by decide +kernel
theorem dL_law_485 : decode cL_law 485 = .ok (.iaload, 1) := by decide +kernel
theorem dL_law_486 : decode cL_law 486 = .ok (.invokevirtual 65, 3) := by decide +kernel
theorem dL_law_489 : decode cL_law 489 = .ok (.aload_n 2, 1) := by decide +kernel
theorem dL_law_490 : decode cL_law 490 = .ok (.aload_n 0, 1) := by decide +kernel
theorem dL_law_491 : decode cL_law 491 = .ok (.iload_n 3, 1) := by decide +kernel
theorem dL_law_492 : decode cL_law 492 = .ok (.iconst 1, 1) := by decide +kernel
theorem dL_law_493 : decode cL_law 493 = .ok (.iadd, 1) := by decide +kernel
theorem dL_law_494 : decode cL_law 494 = .ok (.iaload, 1) := by decide +kernel
theorem dL_law_495 : decode cL_law 495 = .ok (.invokevirtual 68, 3) := by decide +kernel
theorem dL_law_498 : decode cL_law 498 = .ok (.if_icmp .eq 433, 3) := by decide +kernel
theorem dL_law_501 : decode cL_law 501 = .ok (.iconst 0, 1) := by decide +kernel
theorem dL_law_502 : decode cL_law 502 = .ok (.ireturn, 1) := by decide +kernel
theorem dL_law_503 : decode cL_law 503 = .ok (.aload_n 1, 1) := by decide +kernel
theorem dL_law_504 : decode cL_law 504 = .ok (.aload_n 0, 1) := by decide +kernel
theorem dL_law_505 : decode cL_law 505 = .ok (.iload_n 3, 1) := by decide +kernel
theorem dL_law_506 : decode cL_law 506 = .ok (.iconst 1, 1) := by decide +kernel
theorem dL_law_507 : decode cL_law 507 = .ok (.iadd, 1) := by decide +kernel
theorem dL_law_508 : decode cL_law 508 = .ok (.iaload, 1) := by decide +kernel
theorem dL_law_509 : decode cL_law 509 = .ok (.aload_n 0, 1) := by decide +kernel
theorem dL_law_510 : decode cL_law 510 = .ok (.iload_n 3, 1) := by decide +kernel
theorem dL_law_511 : decode cL_law 511 = .ok (.iconst 2, 1) := by decide +kernel
theorem dL_law_512 : decode cL_law 512 = .ok (.iadd, 1) := by decide +kernel
theorem dL_law_513 : decode cL_law 513 = .ok (.iaload, 1) := by decide +kernel
theorem dL_law_514 : decode cL_law 514 = .ok (.invokevirtual 69, 3) := by decide +kernel
theorem dL_law_517 : decode cL_law 517 = .ok (.aload_n 2, 1) := by decide +kernel
theorem dL_law_518 : decode cL_law 518 = .ok (.aload_n 0, 1) := by decide +kernel
theorem dL_law_519 : decode cL_law 519 = .ok (.iload_n 3, 1) := by decide +kernel
theorem dL_law_520 : decode cL_law 520 = .ok (.iconst 1, 1) := by decide +kernel
theorem dL_law_521 : decode cL_law 521 = .ok (.iadd, 1) := by decide +kernel
theorem dL_law_522 : decode cL_law 522 = .ok (.iaload, 1) := by decide +kernel
theorem dL_law_523 : decode cL_law 523 = .ok (.aload_n 0, 1) := by decide +kernel
theorem dL_law_524 : decode cL_law 524 = .ok (.iload_n 3, 1) := by decide +kernel
theorem dL_law_525 : decode cL_law 525 = .ok (.iconst 2, 1) := by decide +kernel
theorem dL_law_526 : decode cL_law 526 = .ok (.iadd, 1) := by decide +kernel
theorem dL_law_527 : decode cL_law 527 = .ok (.iaload, 1) := by decide +kernel
theorem dL_law_528 : decode cL_law 528 = .ok (.invokevirtual 72, 3) := by decide +kernel
theorem dL_law_531 : decode cL_law 531 = .ok (.if_icmp .eq 400, 3) := by decide +kernel
theorem dL_law_534 : decode cL_law 534 = .ok (.iconst 0, 1) := by decide +kernel
theorem dL_law_535 : decode cL_law 535 = .ok (.ireturn, 1) := by decide +kernel
theorem dL_law_536 : decode cL_law 536 = .ok (.aload_n 1, 1) := by decide +kernel
theorem dL_law_537 : decode cL_law 537 = .ok (.invokevirtual 73, 3) := by decide +kernel
theorem dL_law_540 : decode cL_law 540 = .ok (.aload_n 2, 1) := by decide +kernel
theorem dL_law_541 : decode cL_law 541 = .ok (.invokevirtual 76, 3) := by decide +kernel
theorem dL_law_544 : decode cL_law 544 = .ok (.if_icmp .eq 387, 3) := by decide +kernel
theorem dL_law_547 : decode cL_law 547 = .ok (.iconst 0, 1) := by decide +kernel
theorem dL_law_548 : decode cL_law 548 = .ok (.ireturn, 1) := by decide +kernel
theorem dL_law_549 : decode cL_law 549 = .ok (.aload_n 1, 1) := by decide +kernel
theorem dL_law_550 : decode cL_law 550 = .ok (.aload_n 0, 1) := by decide +kernel
theorem dL_law_551 : decode cL_law 551 = .ok (.iload_n 3, 1) := by decide +kernel
theorem dL_law_552 : decode cL_law 552 = .ok (.iconst 1, 1) := by decide +kernel
theorem dL_law_553 : decode cL_law 553 = .ok (.iadd, 1) := by decide +kernel
theorem dL_law_554 : decode cL_law 554 = .ok (.iaload, 1) := by decide +kernel
theorem dL_law_555 : decode cL_law 555 = .ok (.invokevirtual 77, 3) := by decide +kernel
theorem dL_law_558 : decode cL_law 558 = .ok (.aload_n 2, 1) := by decide +kernel
theorem dL_law_559 : decode cL_law 559 = .ok (.aload_n 0, 1) := by decide +kernel
theorem dL_law_560 : decode cL_law 560 = .ok (.iload_n 3, 1) := by decide +kernel
theorem dL_law_561 : decode cL_law 561 = .ok (.iconst 1, 1) := by decide +kernel
theorem dL_law_562 : decode cL_law 562 = .ok (.iadd, 1) := by decide +kernel
theorem dL_law_563 : decode cL_law 563 = .ok (.iaload, 1) := by decide +kernel
theorem dL_law_564 : decode cL_law 564 = .ok (.invokevirtual 80, 3) := by decide +kernel
theorem dL_law_567 : decode cL_law 567 = .ok (.if_icmp .eq 364, 3) := by decide +kernel
theorem dL_law_570 : decode cL_law 570 = .ok (.iconst 0, 1) := by decide +kernel
theorem dL_law_571 : decode cL_law 571 = .ok (.ireturn, 1) := by decide +kernel
theorem dL_law_572 : decode cL_law 572 = .ok (.aload_n 1, 1) := by decide +kernel
theorem dL_law_573 : decode cL_law 573 = .ok (.invokevirtual 81, 3) := by decide +kernel
theorem dL_law_576 : decode cL_law 576 = .ok (.aload_n 2, 1) := by decide +kernel
theorem dL_law_577 : decode cL_law 577 = .ok (.invokevirtual 84, 3) := by decide +kernel
theorem dL_law_580 : decode cL_law 580 = .ok (.if_icmp .eq 351, 3) := by decide +kernel
theorem dL_law_583 : decode cL_law 583 = .ok (.iconst 0, 1) := by decide +kernel
theorem dL_law_584 : decode cL_law 584 = .ok (.ireturn, 1) := by decide +kernel
theorem dL_law_585 : decode cL_law 585 = .ok (.aload_n 1, 1) := by decide +kernel
theorem dL_law_586 : decode cL_law 586 = .ok (.aload_n 0, 1) := by decide +kernel
theorem dL_law_587 : decode cL_law 587 = .ok (.iload_n 3, 1) := by decide +kernel
theorem dL_law_588 : decode cL_law 588 = .ok (.iconst 1, 1) := by decide +kernel
theorem dL_law_589 : decode cL_law 589 = .ok (.iadd, 1) := by decide +kernel
theorem dL_law_590 : decode cL_law 590 = .ok (.iaload, 1) := by decide +kernel
theorem dL_law_591 : decode cL_law 591 = .ok (.aload_n 0, 1) := by decide +kernel
theorem dL_law_592 : decode cL_law 592 = .ok (.iload_n 3, 1) := by decide +kernel
theorem dL_law_593 : decode cL_law 593 = .ok (.iconst 2, 1) := by decide +kernel
theorem dL_law_594 : decode cL_law 594 = .ok (.iadd, 1) := by decide +kernel
theorem dL_law_595 : decode cL_law 595 = .ok (.iaload, 1) := by decide +kernel
theorem dL_law_596 : decode cL_law 596 = .ok (.invokevirtual 85, 3) := by decide +kernel
theorem dL_law_599 : decode cL_law 599 = .ok (.aload_n 2, 1) := by decide +kernel
theorem dL_law_600 : decode cL_law 600 = .ok (.aload_n 0, 1) := by decide +kernel
theorem dL_law_601 : decode cL_law 601 = .ok (.iload_n 3, 1) := by decide +kernel
theorem dL_law_602 : decode cL_law 602 = .ok (.iconst 1, 1) := by decide +kernel
theorem dL_law_603 : decode cL_law 603 = .ok (.iadd, 1) := by decide +kernel
theorem dL_law_604 : decode cL_law 604 = .ok (.iaload, 1) := by decide +kernel
theorem dL_law_605 : decode cL_law 605 = .ok (.aload_n 0, 1) := by decide +kernel
theorem dL_law_606 : decode cL_law 606 = .ok (.iload_n 3, 1) := by decide +kernel
theorem dL_law_607 : decode cL_law 607 = .ok (.iconst 2, 1) := by decide +kernel
theorem dL_law_608 : decode cL_law 608 = .ok (.iadd, 1) := by decide +kernel
theorem dL_law_609 : decode cL_law 609 = .ok (.iaload, 1) := by decide +kernel
theorem dL_law_610 : decode cL_law 610 = .ok (.invokevirtual 88, 3) := by decide +kernel
theorem dL_law_613 : decode cL_law 613 = .ok (.if_icmp .eq 318, 3) := by decide +kernel
theorem dL_law_616 : decode cL_law 616 = .ok (.iconst 0, 1) := by decide +kernel
theorem dL_law_617 : decode cL_law 617 = .ok (.ireturn, 1) := by decide +kernel
theorem dL_law_618 : decode cL_law 618 = .ok (.aload_n 1, 1) := by decide +kernel
theorem dL_law_619 : decode cL_law 619 = .ok (.invokevirtual 89, 3) := by decide +kernel
theorem dL_law_622 : decode cL_law 622 = .ok (.aload_n 2, 1) := by decide +kernel
theorem dL_law_623 : decode cL_law 623 = .ok (.invokevirtual 92, 3) := by decide +kernel
theorem dL_law_626 : decode cL_law 626 = .ok (.if_icmp .eq 305, 3) := by decide +kernel
theorem dL_law_629 : decode cL_law 629 = .ok (.iconst 0, 1) := by decide +kernel
theorem dL_law_630 : decode cL_law 630 = .ok (.ireturn, 1) := by decide +kernel
theorem dL_law_631 : decode cL_law 631 = .ok (.aload_n 1, 1) := by decide +kernel
theorem dL_law_632 : decode cL_law 632 = .ok (.aload_n 0, 1) := by decide +kernel
theorem dL_law_633 : decode cL_law 633 = .ok (.iload_n 3, 1) := by decide +kernel
theorem dL_law_634 : decode cL_law 634 = .ok (.iconst 1, 1) := by decide +kernel
theorem dL_law_635 : decode cL_law 635 = .ok (.iadd, 1) := by decide +kernel
theorem dL_law_636 : decode cL_law 636 = .ok (.iaload, 1) := by decide +kernel
theorem dL_law_637 : decode cL_law 637 = .ok (.invokevirtual 93, 3) := by decide +kernel
theorem dL_law_640 : decode cL_law 640 = .ok (.aload_n 2, 1) := by decide +kernel
theorem dL_law_641 : decode cL_law 641 = .ok (.aload_n 0, 1) := by decide +kernel
theorem dL_law_642 : decode cL_law 642 = .ok (.iload_n 3, 1) := by decide +kernel
theorem dL_law_643 : decode cL_law 643 = .ok (.iconst 1, 1) := by decide +kernel
theorem dL_law_644 : decode cL_law 644 = .ok (.iadd, 1) := by decide +kernel
theorem dL_law_645 : decode cL_law 645 = .ok (.iaload, 1) := by decide +kernel
theorem dL_law_646 : decode cL_law 646 = .ok (.invokevirtual 96, 3) := by decide +kernel
theorem dL_law_649 : decode cL_law 649 = .ok (.if_icmp .eq 282, 3) := by decide +kernel
theorem dL_law_652 : decode cL_law 652 = .ok (.iconst 0, 1) := by decide +kernel
theorem dL_law_653 : decode cL_law 653 = .ok (.ireturn, 1) := by decide +kernel
theorem dL_law_654 : decode cL_law 654 = .ok (.aload_n 1, 1) := by decide +kernel
theorem dL_law_655 : decode cL_law 655 = .ok (.invokevirtual 97, 3) := by decide +kernel
theorem dL_law_658 : decode cL_law 658 = .ok (.aload_n 2, 1) := by decide +kernel
theorem dL_law_659 : decode cL_law 659 = .ok (.invokevirtual 100, 3) := by decide +kernel
theorem dL_law_662 : decode cL_law 662 = .ok (.if_icmp .eq 269, 3) := by decide +kernel
theorem dL_law_665 : decode cL_law 665 = .ok (.iconst 0, 1) := by decide +kernel
theorem dL_law_666 : decode cL_law 666 = .ok (.ireturn, 1) := by decide +kernel
theorem dL_law_667 : decode cL_law 667 = .ok (.aload_n 1, 1) := by decide +kernel
theorem dL_law_668 : decode cL_law 668 = .ok (.aload_n 0, 1) := by decide +kernel
theorem dL_law_669 : decode cL_law 669 = .ok (.iload_n 3, 1) := by decide +kernel
theorem dL_law_670 : decode cL_law 670 = .ok (.iconst 1, 1) := by decide +kernel
theorem dL_law_671 : decode cL_law 671 = .ok (.iadd, 1) := by decide +kernel
theorem dL_law_672 : decode cL_law 672 = .ok (.iaload, 1) := by decide +kernel
theorem dL_law_673 : decode cL_law 673 = .ok (.aload_n 0, 1) := by decide +kernel
theorem dL_law_674 : decode cL_law 674 = .ok (.iload_n 3, 1) := by decide +kernel
theorem dL_law_675 : decode cL_law 675 = .ok (.iconst 2, 1) := by decide +kernel
theorem dL_law_676 : decode cL_law 676 = .ok (.iadd, 1) := by decide +kernel
theorem dL_law_677 : decode cL_law 677 = .ok (.iaload, 1) := by decide +kernel
theorem dL_law_678 : decode cL_law 678 = .ok (.aload_n 0, 1) := by decide +kernel
theorem dL_law_679 : decode cL_law 679 = .ok (.iload_n 3, 1) := by decide +kernel
theorem dL_law_680 : decode cL_law 680 = .ok (.iconst 3, 1) := by decide +kernel
theorem dL_law_681 : decode cL_law 681 = .ok (.iadd, 1) := by decide +kernel
theorem dL_law_682 : decode cL_law 682 = .ok (.iaload, 1) := by decide +kernel
theorem dL_law_683 : decode cL_law 683 = .ok (.invokevirtual 101, 3) := by decide +kernel
theorem dL_law_686 : decode cL_law 686 = .ok (.aload_n 2, 1) := by decide +kernel
theorem dL_law_687 : decode cL_law 687 = .ok (.aload_n 0, 1) := by decide +kernel
theorem dL_law_688 : decode cL_law 688 = .ok (.iload_n 3, 1) := by decide +kernel
theorem dL_law_689 : decode cL_law 689 = .ok (.iconst 1, 1) := by decide +kernel
theorem dL_law_690 : decode cL_law 690 = .ok (.iadd, 1) := by decide +kernel
theorem dL_law_691 : decode cL_law 691 = .ok (.iaload, 1) := by decide +kernel
theorem dL_law_692 : decode cL_law 692 = .ok (.aload_n 0, 1) := by decide +kernel
theorem dL_law_693 : decode cL_law 693 = .ok (.iload_n 3, 1) := by decide +kernel
theorem dL_law_694 : decode cL_law 694 = .ok (.iconst 2, 1) := by decide +kernel
theorem dL_law_695 : decode cL_law 695 = .ok (.iadd, 1) := by decide +kernel
theorem dL_law_696 : decode cL_law 696 = .ok (.iaload, 1) := by decide +kernel
theorem dL_law_697 : decode cL_law 697 = .ok (.aload_n 0, 1) := by decide +kernel
theorem dL_law_698 : decode cL_law 698 = .ok (.iload_n 3, 1) := by decide +kernel
theorem dL_law_699 : decode cL_law 699 = .ok (.iconst 3, 1) := by decide +kernel
theorem dL_law_700 : decode cL_law 700 = .ok (.iadd, 1) := by decide +kernel
theorem dL_law_701 : decode cL_law 701 = .ok (.iaload, 1) := by decide +kernel
theorem dL_law_702 : decode cL_law 702 = .ok (.invokevirtual 104, 3) := by decide +kernel
theorem dL_law_705 : decode cL_law 705 = .ok (.if_icmp .eq 226, 3) := by decide +kernel
theorem dL_law_708 : decode cL_law 708 = .ok (.iconst 0, 1) := by decide +kernel
theorem dL_law_709 : decode cL_law 709 = .ok (.ireturn, 1) := by decide +kernel
theorem dL_law_710 : decode cL_law 710 = .ok (.aload_n 1, 1) := by decide +kernel
theorem dL_law_711 : decode cL_law 711 = .ok (.aload_n 0, 1) := by decide +kernel
theorem dL_law_712 : decode cL_law 712 = .ok (.iload_n 3, 1) := by decide +kernel
theorem dL_law_713 : decode cL_law 713 = .ok (.iconst 1, 1) := by decide +kernel
theorem dL_law_714 : decode cL_law 714 = .ok (.iadd, 1) := by decide +kernel
theorem dL_law_715 : decode cL_law 715 = .ok (.iaload, 1) := by decide +kernel
theorem dL_law_716 : decode cL_law 716 = .ok (.invokevirtual 105, 3) := by decide +kernel
theorem dL_law_719 : decode cL_law 719 = .ok (.aload_n 2, 1) := by decide +kernel
theorem dL_law_720 : decode cL_law 720 = .ok (.aload_n 0, 1) := by decide +kernel
theorem dL_law_721 : decode cL_law 721 = .ok (.iload_n 3, 1) := by decide +kernel
theorem dL_law_722 : decode cL_law 722 = .ok (.iconst 1, 1) := by decide +kernel
theorem dL_law_723 : decode cL_law 723 = .ok (.iadd, 1) := by decide +kernel
theorem dL_law_724 : decode cL_law 724 = .ok (.iaload, 1) := by decide +kernel
theorem dL_law_725 : decode cL_law 725 = .ok (.invokevirtual 108, 3) := by decide +kernel
theorem dL_law_728 : decode cL_law 728 = .ok (.if_icmp .eq 203, 3) := by decide +kernel
theorem dL_law_731 : decode cL_law 731 = .ok (.iconst 0, 1) := by decide +kernel
theorem dL_law_732 : decode cL_law 732 = .ok (.ireturn, 1) := by decide +kernel
theorem dL_law_733 : decode cL_law 733 = .ok (.aload_n 1, 1) := by decide +kernel
theorem dL_law_734 : decode cL_law 734 = .ok (.aload_n 0, 1) := by decide +kernel
theorem dL_law_735 : decode cL_law 735 = .ok (.iload_n 3, 1) := by decide +kernel
theorem dL_law_736 : decode cL_law 736 = .ok (.iconst 1, 1) := by decide +kernel
theorem dL_law_737 : decode cL_law 737 = .ok (.iadd, 1) := by decide +kernel
theorem dL_law_738 : decode cL_law 738 = .ok (.iaload, 1) := by decide +kernel
theorem dL_law_739 : decode cL_law 739 = .ok (.aload_n 0, 1) := by decide +kernel
theorem dL_law_740 : decode cL_law 740 = .ok (.iload_n 3, 1) := by decide +kernel
theorem dL_law_741 : decode cL_law 741 = .ok (.iconst 2, 1) := by decide +kernel
theorem dL_law_742 : decode cL_law 742 = .ok (.iadd, 1) := by decide +kernel
theorem dL_law_743 : decode cL_law 743 = .ok (.iaload, 1) := by decide +kernel
theorem dL_law_744 : decode cL_law 744 = .ok (.aload_n 0, 1) := by decide +kernel
theorem dL_law_745 : decode cL_law 745 = .ok (.iload_n 3, 1) := by decide +kernel
theorem dL_law_746 : decode cL_law 746 = .ok (.iconst 3, 1) := by decide +kernel
theorem dL_law_747 : decode cL_law 747 = .ok (.iadd, 1) := by decide +kernel
theorem dL_law_748 : decode cL_law 748 = .ok (.iaload, 1) := by decide +kernel
theorem dL_law_749 : decode cL_law 749 = .ok (.invokevirtual 109, 3) := by decide +kernel
theorem dL_law_752 : decode cL_law 752 = .ok (.aload_n 2, 1) := by decide +kernel
theorem dL_law_753 : decode cL_law 753 = .ok (.aload_n 0, 1) := by decide +kernel
theorem dL_law_754 : decode cL_law 754 = .ok (.iload_n 3, 1) := by decide +kernel
theorem dL_law_755 : decode cL_law 755 = .ok (.iconst 1, 1) := by decide +kernel
theorem dL_law_756 : decode cL_law 756 = .ok (.iadd, 1) := by decide +kernel
theorem dL_law_757 : decode cL_law 757 = .ok (.iaload, 1) := by decide +kernel
theorem dL_law_758 : decode cL_law 758 = .ok (.aload_n 0, 1) := by decide +kernel
theorem dL_law_759 : decode cL_law 759 = .ok (.iload_n 3, 1) := by decide +kernel
theorem dL_law_760 : decode cL_law 760 = .ok (.iconst 2, 1) := by decide +kernel
theorem dL_law_761 : decode cL_law 761 = .ok (.iadd, 1) := by decide +kernel
theorem dL_law_762 : decode cL_law 762 = .ok (.iaload, 1) := by decide +kernel
theorem dL_law_763 : decode cL_law 763 = .ok (.aload_n 0, 1) := by decide +kernel
theorem dL_law_764 : decode cL_law 764 = .ok (.iload_n 3, 1) := by decide +kernel
theorem dL_law_765 : decode cL_law 765 = .ok (.iconst 3, 1) := by decide +kernel
theorem dL_law_766 : decode cL_law 766 = .ok (.iadd, 1) := by decide +kernel
theorem dL_law_767 : decode cL_law 767 = .ok (.iaload, 1) := by decide +kernel
theorem dL_law_768 : decode cL_law 768 = .ok (.invokevirtual 112, 3) := by decide +kernel
theorem dL_law_771 : decode cL_law 771 = .ok (.if_icmp .eq 160, 3) := by decide +kernel
theorem dL_law_774 : decode cL_law 774 = .ok (.iconst 0, 1) := by decide +kernel
theorem dL_law_775 : decode cL_law 775 = .ok (.ireturn, 1) := by decide +kernel
theorem dL_law_776 : decode cL_law 776 = .ok (.aload_n 1, 1) := by decide +kernel
theorem dL_law_777 : decode cL_law 777 = .ok (.aload_n 0, 1) := by decide +kernel
theorem dL_law_778 : decode cL_law 778 = .ok (.iload_n 3, 1) := by decide +kernel
theorem dL_law_779 : decode cL_law 779 = .ok (.iconst 1, 1) := by decide +kernel
theorem dL_law_780 : decode cL_law 780 = .ok (.iadd, 1) := by decide +kernel
theorem dL_law_781 : decode cL_law 781 = .ok (.iaload, 1) := by decide +kernel
theorem dL_law_782 : decode cL_law 782 = .ok (.aload_n 0, 1) := by decide +kernel
theorem dL_law_783 : decode cL_law 783 = .ok (.iload_n 3, 1) := by decide +kernel
theorem dL_law_784 : decode cL_law 784 = .ok (.iconst 2, 1) := by decide +kernel
theorem dL_law_785 : decode cL_law 785 = .ok (.iadd, 1) := by decide +kernel
theorem dL_law_786 : decode cL_law 786 = .ok (.iaload, 1) := by decide +kernel
theorem dL_law_787 : decode cL_law 787 = .ok (.aload_n 0, 1) := by decide +kernel
theorem dL_law_788 : decode cL_law 788 = .ok (.iload_n 3, 1) := by decide +kernel
theorem dL_law_789 : decode cL_law 789 = .ok (.iconst 3, 1) := by decide +kernel
theorem dL_law_790 : decode cL_law 790 = .ok (.iadd, 1) := by decide +kernel
theorem dL_law_791 : decode cL_law 791 = .ok (.iaload, 1) := by decide +kernel
theorem dL_law_792 : decode cL_law 792 = .ok (.invokevirtual 113, 3) := by decide +kernel
theorem dL_law_795 : decode cL_law 795 = .ok (.aload_n 2, 1) := by decide +kernel
theorem dL_law_796 : decode cL_law 796 = .ok (.aload_n 0, 1) := by decide +kernel
theorem dL_law_797 : decode cL_law 797 = .ok (.iload_n 3, 1) := by decide +kernel
theorem dL_law_798 : decode cL_law 798 = .ok (.iconst 1, 1) := by decide +kernel
theorem dL_law_799 : decode cL_law 799 = .ok (.iadd, 1) := by decide +kernel
theorem dL_law_800 : decode cL_law 800 = .ok (.iaload, 1) := by decide +kernel
theorem dL_law_801 : decode cL_law 801 = .ok (.aload_n 0, 1) := by decide +kernel
theorem dL_law_802 : decode cL_law 802 = .ok (.iload_n 3, 1) := by decide +kernel
theorem dL_law_803 : decode cL_law 803 = .ok (.iconst 2, 1) := by decide +kernel
theorem dL_law_804 : decode cL_law 804 = .ok (.iadd, 1) := by decide +kernel
theorem dL_law_805 : decode cL_law 805 = .ok (.iaload, 1) := by decide +kernel
theorem dL_law_806 : decode cL_law 806 = .ok (.aload_n 0, 1) := by decide +kernel
theorem dL_law_807 : decode cL_law 807 = .ok (.iload_n 3, 1) := by decide +kernel
theorem dL_law_808 : decode cL_law 808 = .ok (.iconst 3, 1) := by decide +kernel
theorem dL_law_809 : decode cL_law 809 = .ok (.iadd, 1) := by decide +kernel
theorem dL_law_810 : decode cL_law 810 = .ok (.iaload, 1) := by decide +kernel
theorem dL_law_811 : decode cL_law 811 = .ok (.invokevirtual 116, 3) := by decide +kernel
theorem dL_law_814 : decode cL_law 814 = .ok (.if_icmp .eq 117, 3) := by decide +kernel
theorem dL_law_817 : decode cL_law 817 = .ok (.iconst 0, 1) := by decide +kernel
theorem dL_law_818 : decode cL_law 818 = .ok (.ireturn, 1) := by decide +kernel
theorem dL_law_819 : decode cL_law 819 = .ok (.aload_n 1, 1) := by decide +kernel
theorem dL_law_820 : decode cL_law 820 = .ok (.aload_n 0, 1) := by decide +kernel
theorem dL_law_821 : decode cL_law 821 = .ok (.iload_n 3, 1) := by decide +kernel
theorem dL_law_822 : decode cL_law 822 = .ok (.iconst 1, 1) := by decide +kernel
theorem dL_law_823 : decode cL_law 823 = .ok (.iadd, 1) := by decide +kernel
theorem dL_law_824 : decode cL_law 824 = .ok (.iaload, 1) := by decide +kernel
theorem dL_law_825 : decode cL_law 825 = .ok (.aload_n 0, 1) := by decide +kernel
theorem dL_law_826 : decode cL_law 826 = .ok (.iload_n 3, 1) := by decide +kernel
theorem dL_law_827 : decode cL_law 827 = .ok (.iconst 2, 1) := by decide +kernel
theorem dL_law_828 : decode cL_law 828 = .ok (.iadd, 1) := by decide +kernel
theorem dL_law_829 : decode cL_law 829 = .ok (.iaload, 1) := by decide +kernel
theorem dL_law_830 : decode cL_law 830 = .ok (.aload_n 0, 1) := by decide +kernel
theorem dL_law_831 : decode cL_law 831 = .ok (.iload_n 3, 1) := by decide +kernel
theorem dL_law_832 : decode cL_law 832 = .ok (.iconst 3, 1) := by decide +kernel
theorem dL_law_833 : decode cL_law 833 = .ok (.iadd, 1) := by decide +kernel
theorem dL_law_834 : decode cL_law 834 = .ok (.iaload, 1) := by decide +kernel
theorem dL_law_835 : decode cL_law 835 = .ok (.invokevirtual 117, 3) := by decide +kernel
theorem dL_law_838 : decode cL_law 838 = .ok (.aload_n 2, 1) := by decide +kernel
theorem dL_law_839 : decode cL_law 839 = .ok (.aload_n 0, 1) := by decide +kernel
theorem dL_law_840 : decode cL_law 840 = .ok (.iload_n 3, 1) := by decide +kernel
theorem dL_law_841 : decode cL_law 841 = .ok (.iconst 1, 1) := by decide +kernel
theorem dL_law_842 : decode cL_law 842 = .ok (.iadd, 1) := by decide +kernel
theorem dL_law_843 : decode cL_law 843 = .ok (.iaload, 1) := by decide +kernel
theorem dL_law_844 : decode cL_law 844 = .ok (.aload_n 0, 1) := by decide +kernel
theorem dL_law_845 : decode cL_law 845 = .ok (.iload_n 3, 1) := by decide +kernel
theorem dL_law_846 : decode cL_law 846 = .ok (.iconst 2, 1) := by decide +kernel
theorem dL_law_847 : decode cL_law 847 = .ok (.iadd, 1) := by decide +kernel
theorem dL_law_848 : decode cL_law 848 = .ok (.iaload, 1) := by decide +kernel
theorem dL_law_849 : decode cL_law 849 = .ok (.aload_n 0, 1) := by decide +kernel
theorem dL_law_850 : decode cL_law 850 = .ok (.iload_n 3, 1) := by decide +kernel
theorem dL_law_851 : decode cL_law 851 = .ok (.iconst 3, 1) := by decide +kernel
theorem dL_law_852 : decode cL_law 852 = .ok (.iadd, 1) := by decide +kernel
theorem dL_law_853 : decode cL_law 853 = .ok (.iaload, 1) := by decide +kernel
theorem dL_law_854 : decode cL_law 854 = .ok (.invokevirtual 120, 3) := by decide +kernel
theorem dL_law_857 : decode cL_law 857 = .ok (.if_icmp .eq 74, 3) := by decide +kernel
theorem dL_law_860 : decode cL_law 860 = .ok (.iconst 0, 1) := by decide +kernel
theorem dL_law_861 : decode cL_law 861 = .ok (.ireturn, 1) := by decide +kernel
theorem dL_law_862 : decode cL_law 862 = .ok (.aload_n 1, 1) := by decide +kernel
theorem dL_law_863 : decode cL_law 863 = .ok (.aload_n 0, 1) := by decide +kernel
theorem dL_law_864 : decode cL_law 864 = .ok (.iload_n 3, 1) := by decide +kernel
theorem dL_law_865 : decode cL_law 865 = .ok (.iconst 1, 1) := by decide +kernel
theorem dL_law_866 : decode cL_law 866 = .ok (.iadd, 1) := by decide +kernel
theorem dL_law_867 : decode cL_law 867 = .ok (.iaload, 1) := by decide +kernel
theorem dL_law_868 : decode cL_law 868 = .ok (.aload_n 0, 1) := by decide +kernel
theorem dL_law_869 : decode cL_law 869 = .ok (.iload_n 3, 1) := by decide +kernel
theorem dL_law_870 : decode cL_law 870 = .ok (.iconst 2, 1) := by decide +kernel
theorem dL_law_871 : decode cL_law 871 = .ok (.iadd, 1) := by decide +kernel
theorem dL_law_872 : decode cL_law 872 = .ok (.iaload, 1) := by decide +kernel
theorem dL_law_873 : decode cL_law 873 = .ok (.aload_n 0, 1) := by decide +kernel
theorem dL_law_874 : decode cL_law 874 = .ok (.iload_n 3, 1) := by decide +kernel
theorem dL_law_875 : decode cL_law 875 = .ok (.iconst 3, 1) := by decide +kernel
theorem dL_law_876 : decode cL_law 876 = .ok (.iadd, 1) := by decide +kernel
theorem dL_law_877 : decode cL_law 877 = .ok (.iaload, 1) := by decide +kernel
theorem dL_law_878 : decode cL_law 878 = .ok (.invokevirtual 121, 3) := by decide +kernel
theorem dL_law_881 : decode cL_law 881 = .ok (.aload_n 2, 1) := by decide +kernel
theorem dL_law_882 : decode cL_law 882 = .ok (.aload_n 0, 1) := by decide +kernel
theorem dL_law_883 : decode cL_law 883 = .ok (.iload_n 3, 1) := by decide +kernel
theorem dL_law_884 : decode cL_law 884 = .ok (.iconst 1, 1) := by decide +kernel
theorem dL_law_885 : decode cL_law 885 = .ok (.iadd, 1) := by decide +kernel
theorem dL_law_886 : decode cL_law 886 = .ok (.iaload, 1) := by decide +kernel
theorem dL_law_887 : decode cL_law 887 = .ok (.aload_n 0, 1) := by decide +kernel
theorem dL_law_888 : decode cL_law 888 = .ok (.iload_n 3, 1) := by decide +kernel
theorem dL_law_889 : decode cL_law 889 = .ok (.iconst 2, 1) := by decide +kernel
theorem dL_law_890 : decode cL_law 890 = .ok (.iadd, 1) := by decide +kernel
theorem dL_law_891 : decode cL_law 891 = .ok (.iaload, 1) := by decide +kernel
theorem dL_law_892 : decode cL_law 892 = .ok (.aload_n 0, 1) := by decide +kernel
theorem dL_law_893 : decode cL_law 893 = .ok (.iload_n 3, 1) := by decide +kernel
theorem dL_law_894 : decode cL_law 894 = .ok (.iconst 3, 1) := by decide +kernel
theorem dL_law_895 : decode cL_law 895 = .ok (.iadd, 1) := by decide +kernel
theorem dL_law_896 : decode cL_law 896 = .ok (.iaload, 1) := by decide +kernel
theorem dL_law_897 : decode cL_law 897 = .ok (.invokevirtual 124, 3) := by decide +kernel
theorem dL_law_900 : decode cL_law 900 = .ok (.if_icmp .eq 31, 3) := by decide +kernel
theorem dL_law_903 : decode cL_law 903 = .ok (.iconst 0, 1) := by decide +kernel
theorem dL_law_904 : decode cL_law 904 = .ok (.ireturn, 1) := by decide +kernel
theorem dL_law_905 : decode cL_law 905 = .ok (.aload_n 1, 1) := by decide +kernel
theorem dL_law_906 : decode cL_law 906 = .ok (.invokevirtual 125, 3) := by decide +kernel
theorem dL_law_909 : decode cL_law 909 = .ok (.aload_n 2, 1) := by decide +kernel
theorem dL_law_910 : decode cL_law 910 = .ok (.invokevirtual 128, 3) := by decide +kernel
theorem dL_law_913 : decode cL_law 913 = .ok (.if_icmp .eq 18, 3) := by decide +kernel
theorem dL_law_916 : decode cL_law 916 = .ok (.iconst 0, 1) := by decide +kernel
theorem dL_law_917 : decode cL_law 917 = .ok (.ireturn, 1) := by decide +kernel
theorem dL_law_918 : decode cL_law 918 = .ok (.aload_n 1, 1) := by decide +kernel
theorem dL_law_919 : decode cL_law 919 = .ok (.invokevirtual 129, 3) := by decide +kernel
theorem dL_law_922 : decode cL_law 922 = .ok (.aload_n 2, 1) := by decide +kernel
theorem dL_law_923 : decode cL_law 923 = .ok (.invokevirtual 132, 3) := by decide +kernel
theorem dL_law_926 : decode cL_law 926 = .ok (.if_icmp .eq 5, 3) := by decide +kernel
theorem dL_law_929 : decode cL_law 929 = .ok (.iconst 0, 1) := by decide +kernel
theorem dL_law_930 : decode cL_law 930 = .ok (.ireturn, 1) := by decide +kernel
theorem dL_law_931 : decode cL_law 931 = .ok (.iinc 3 4, 3) := by decide +kernel
theorem dL_law_934 : decode cL_law 934 = .ok (.goto (-916), 3) := by decide +kernel
theorem dL_law_937 : decode cL_law 937 = .ok (.iconst 1, 1) := by decide +kernel
theorem dL_law_938 : decode cL_law 938 = .ok (.ireturn, 1) := by decide +kernel
abbrev vwCl : List vw_C := [(RX0, TX0, 6), (RX1, TX1, 0), (RX2, TX2, 6), (RX3, TX3, 0), (RX4, TX4, 0), (RX5, TX5, 0), (RX6, TX6, 2), (RX7, TX7, 9), (RX8, TX8, 3), (RX9, TX9, 0), (RX10, TX10, 10), (RX11, TX11, 8), (RX12, TX12, 27)]
end
section
/-! all words: the law's printed list, and two that it lacks (FIRST's super.follow, which stands two classes above) -/
def wsE : List Cond := [.methodLink RX1 13 ⟨RX9, "follow", "(LFellersOrder$Acting;I)I"⟩, .sameMethod RX9 RX4 "follow" "(LFellersOrder$Acting;I)I"]
def wsU : List Cond := wsL_law ++ wsE
theorem inuX0 : ∀ w ∈ wsX00, w ∈ wsU := fun w h => List.mem_append_left _ (inlX0 w h)
theorem inuX1 : ∀ w ∈ wsX10, w ∈ wsU := fun w h => List.mem_append_left _ (inlX1 w h)
theorem inuX2 : ∀ w ∈ wsX20, w ∈ wsU := fun w h => List.mem_append_left _ (inlX2 w h)
theorem inuX3 : ∀ w ∈ wsX30, w ∈ wsU := fun w h => List.mem_append_left _ (inlX3 w h)
theorem inuX4 : ∀ w ∈ wsX40, w ∈ wsU := fun w h => List.mem_append_left _ (inlX4 w h)
theorem inuX5 : ∀ w ∈ wsX50, w ∈ wsU := fun w h => List.mem_append_left _ (inlX5 w h)
theorem inuX6 : ∀ w ∈ wsX60, w ∈ wsU := fun w h => List.mem_append_left _ (inlX6 w h)
theorem inuX7 : ∀ w ∈ wsX70, w ∈ wsU := fun w h => List.mem_append_left _ (inlX7 w h)
theorem inuX8 : ∀ w ∈ wsX80, w ∈ wsU := fun w h => List.mem_append_left _ (inlX8 w h)
theorem inuX9 : ∀ w ∈ wsX90, w ∈ wsU := fun w h => List.mem_append_left _ (inlX9 w h)
theorem inuX10 : ∀ w ∈ wsX100, w ∈ wsU := fun w h => List.mem_append_left _ (inlX10 w h)
theorem inuX11 : ∀ w ∈ wsX110, w ∈ wsU := fun w h => List.mem_append_left _ (inlX11 w h)
theorem inuX12 : ∀ w ∈ wsX120, w ∈ wsU := fun w h => List.mem_append_left _ (inlX12 w h)
end
section
/-! The system's cells as one function: cell k lies at h k and holds G k (u k); u is all that changes. One form of contract for every method. -/
abbrev St : Type := Nat → Nat → Int32
/-- number j of cell k becomes v -/
def su (u : St) (k j : Nat) (v : Int32) : St := fun a => if a = k then upd (u k) j v else u a
theorem su_s (u : St) (k j : Nat) (v : Int32) : su u k j v k = upd (u k) j v := if_pos rfl
theorem su_n (u : St) {k a : Nat} (j : Nat) (v : Int32) (e : a ≠ k) : su u k j v a = u a := if_neg e
def wG (N : Nat) (G : Nat → (Nat → Int32) → va_E) (h : Nat → Nat) (u : St) : va_W := (List.range N).map (fun k => (h k, G k (u k)))
theorem wG_at {N : Nat} {G : Nat → (Nat → Int32) → va_E} {h : Nat → Nat} {u : St} {k : Nat} (hk : k < N) : (wG N G h u)[k]? = some (h k, G k (u k)) := by
  unfold wG
  rw [List.getElem?_map, List.getElem?_range hk]
  rfl
theorem wG_len {N : Nat} {G : Nat → (Nat → Int32) → va_E} {h : Nat → Nat} {u : St} : (wG N G h u).length = N := by
  unfold wG
  rw [List.length_map, List.length_range]
theorem wG_set {N : Nat} {G : Nat → (Nat → Int32) → va_E} {h : Nat → Nat} {u : St} {k j : Nat} {v : Int32} {e : va_E} (he : G k (upd (u k) j v) = e) : (wG N G h u).set k (h k, e) = wG N G h (su u k j v) := by
  subst he
  refine List.ext_getElem? fun i => ?_
  by_cases hi : i < N
  · rw [wG_at hi]
    by_cases hk : i = k
    · subst hk
      rw [List.getElem?_set_self (by rw [wG_len]; exact hi), su_s]
    · rw [List.getElem?_set_ne (fun q => hk q.symm), wG_at hi, su_n _ _ _ hk]
  · rw [List.getElem?_eq_none (by rw [List.length_set, wG_len]; omega), List.getElem?_eq_none (by rw [wG_len]; omega)]
/-- the words on members that are private to a nest mate: no word list of a method may hold them, so they go along by themselves -/
def nestW : List Cond := [.methodLinkNest RX11 9 yX10_init "FellersOrder", .methodLinkNest RX11 18 yX7_init "FellersOrder", .methodLinkNest RX11 25 yX6_init "FellersOrder", .methodLinkNest RX11 32 yX2_init "FellersOrder", .methodLinkNest RX11 39 yX0_init "FellersOrder", .methodLinkNest RX11 46 yX4_init "FellersOrder", .methodLinkNest RX11 49 yX9_init "FellersOrder", .methodLinkNest RX9 1 yX4_init "FellersOrder", .methodLinkNest RX11 52 yX3_init "FellersOrder", .methodLinkNest RX3 1 yX4_init "FellersOrder", .methodLinkNest RX11 55 yX1_init "FellersOrder", .methodLinkNest RX1 1 yX9_init "FellersOrder", .methodLinkNest RX11 58 yX5_init "FellersOrder", .methodLinkNest RX5 1 yX4_init "FellersOrder", .methodLinkNest RX11 69 yX8_init "FellersOrder", .methodLinkNest RX10 51 yX11_hasBit "FellersOrder", .methodLinkNest RX7 53 yX11_hasBit "FellersOrder", .fieldLinkNest RX4 13 "FellersOrder$Acting" "length" "I" "FellersOrder", .fieldLinkNest RX3 17 "FellersOrder$Acting" "length" "I" "FellersOrder", .fieldLinkNest RX4 23 "FellersOrder$Acting" "weight" "I" "FellersOrder", .fieldLinkNest RX5 13 "FellersOrder$Acting" "moment" "I" "FellersOrder", .fieldLinkNest RX4 26 "FellersOrder$Acting" "ahead" "I" "FellersOrder"]
theorem nestW_form : ∀ w ∈ nestW, (∃ a i b n d h, w = Cond.fieldLinkNest a i b n d h) ∨ (∃ a i x h, w = Cond.methodLinkNest a i x h) := List.forall_mem_cons.mpr ⟨Or.inr ⟨_, _, _, _, rfl⟩, List.forall_mem_cons.mpr ⟨Or.inr ⟨_, _, _, _, rfl⟩, List.forall_mem_cons.mpr ⟨Or.inr ⟨_, _, _, _, rfl⟩, List.forall_mem_cons.mpr ⟨Or.inr ⟨_, _, _, _, rfl⟩, List.forall_mem_cons.mpr ⟨Or.inr ⟨_, _, _, _, rfl⟩, List.forall_mem_cons.mpr ⟨Or.inr ⟨_, _, _, _, rfl⟩, List.forall_mem_cons.mpr ⟨Or.inr ⟨_, _, _, _, rfl⟩, List.forall_mem_cons.mpr ⟨Or.inr ⟨_, _, _, _, rfl⟩, List.forall_mem_cons.mpr ⟨Or.inr ⟨_, _, _, _, rfl⟩, List.forall_mem_cons.mpr ⟨Or.inr ⟨_, _, _, _, rfl⟩, List.forall_mem_cons.mpr ⟨Or.inr ⟨_, _, _, _, rfl⟩, List.forall_mem_cons.mpr ⟨Or.inr ⟨_, _, _, _, rfl⟩, List.forall_mem_cons.mpr ⟨Or.inr ⟨_, _, _, _, rfl⟩, List.forall_mem_cons.mpr ⟨Or.inr ⟨_, _, _, _, rfl⟩, List.forall_mem_cons.mpr ⟨Or.inr ⟨_, _, _, _, rfl⟩, List.forall_mem_cons.mpr ⟨Or.inr ⟨_, _, _, _, rfl⟩, List.forall_mem_cons.mpr ⟨Or.inr ⟨_, _, _, _, rfl⟩, List.forall_mem_cons.mpr ⟨Or.inl ⟨_, _, _, _, _, _, rfl⟩, List.forall_mem_cons.mpr ⟨Or.inl ⟨_, _, _, _, _, _, rfl⟩, List.forall_mem_cons.mpr ⟨Or.inl ⟨_, _, _, _, _, _, rfl⟩, List.forall_mem_cons.mpr ⟨Or.inl ⟨_, _, _, _, _, _, rfl⟩, List.forall_mem_cons.mpr ⟨Or.inl ⟨_, _, _, _, _, _, rfl⟩, fun _ h => absurd h List.not_mem_nil⟩⟩⟩⟩⟩⟩⟩⟩⟩⟩⟩⟩⟩⟩⟩⟩⟩⟩⟩⟩⟩⟩
/-- .. and which kinds are under UNIT -/
def Nst (U : State) : Prop := (∀ w ∈ nestW, va_Nw w U) ∧ va_Nw (.castable RX1 RX9) U ∧ va_Nc RX4 RX9 U ∧ va_Nc RX3 RX9 U ∧ va_Nc RX5 RX9 U
theorem Nst.same {u U : State} (e : u.vm = U.vm) (h : Nst u) : Nst U := by
  have ha : u.vm.Alike U.vm := e ▸ Vm.Alike.refl u.vm
  refine ⟨fun w hw => ?_, va_Nw.same rfl e h.2.1, h.2.2.1.moved ha, h.2.2.2.1.moved ha, h.2.2.2.2.moved ha⟩
  rcases nestW_form w hw with ⟨_, _, _, _, _, _, rfl⟩ | ⟨_, _, _, _, rfl⟩ <;> exact va_Nw.same rfl e (h.1 _ hw)
theorem Nst.warm {s U : State} (hW : s.WarmedH U.vm) (h : Nst s) : Nst U := by
  refine ⟨fun w hw => ?_, va_Nw.warmC hW h.2.1, h.2.2.1.moved hW.alike, h.2.2.2.1.moved hW.alike, h.2.2.2.2.moved hW.alike⟩
  rcases nestW_form w hw with ⟨_, _, _, _, _, _, rfl⟩ | ⟨_, _, _, _, rfl⟩
  · exact va_Nw.warmF hW (h.1 _ hw)
  · exact va_Nw.warmM hW (h.1 _ hw)
/-- the class's two rows of limits: lowest and highest of a LENGTH, a WEIGHT, a MOMENT -/
def loT (j : Nat) : Int32 := if j = 0 then 1 else 0
def hiT (j : Nat) : Int32 := if j = 2 then 500 else 100
def Stt (A : Nat → Prop) (U : State) (H : Heap) : Prop := ∃ t0 t1 : Nat, va_Z RX10 "LOWEST" "[I" (.ref t0) A U H ∧ va_T .int t0 3 (fun j => .int (loT j)) A U H ∧ va_Z RX10 "HIGHEST" "[I" (.ref t1) A U H ∧ va_T .int t1 3 (fun j => .int (hiT j)) A U H
theorem Stt.go {A B : Nat → Prop} {s U : State} {H H1 : Heap} (h : Stt A s H) (hq : ∀ a : Nat, a < H.size → ¬ A a → H1[a]? = H[a]?) (hB : ∀ q, B q → A q) (hvm : s.vm.Alike U.vm) : Stt B U H1 := by
  obtain ⟨t0, t1, a, b, c, d⟩ := h
  exact ⟨t0, t1, ((a.kept hq).narrow hB).moved hvm, ((b.kept hq).narrow hB).moved hvm, ((c.kept hq).narrow hB).moved hvm, ((d.kept hq).narrow hB).moved hvm⟩
/-- the world stands: the cells hold u, they lie apart in A, nothing outside A has changed -/
def wO (D : va_G) (N : Nat) (G : Nat → (Nat → Int32) → va_E) (h : Nat → Nat) (u : St) (A : Nat → Prop) (H0 H : Heap) (locs : List Loc) : Prop := va_P D vwCl (wG N G h u) H ∧ va_D A (wG N G h u) ∧ va_S A H0 H locs
/-- what holds all through a method's body -/
def Cx (p : Program) (s : State) (m : MethodId) (args : Array Value) (meth : Method) (c : Code) (cc : ByteArray) (nL : Nat) (ret : Option FieldType) (own : String) (D : va_G) (tys : List (ClassId × FieldType)) (A : Nat → Prop) : Prop :=
  CallFix p m c cc nL s args wsU own ∧ va_K D vwCl tys s ∧ (Nst s ∧ Stt A s s.heap) ∧ meth.locks = false ∧ meth.sig.returnType = ret
abbrev cB (D : va_G) (tys : List (ClassId × FieldType)) (N : Nat) (G : Nat → (Nat → Int32) → va_E) (h : Nat → Nat) (A : Nat → Prop) (u : St) (t : State) : Prop := va_P D vwCl (wG N G h u) t.heap ∧ va_K D vwCl tys t ∧ va_D A (wG N G h u)
abbrev cP (D : va_G) (tys : List (ClassId × FieldType)) (N : Nat) (G : Nat → (Nat → Int32) → va_E) (h : Nat → Nat) (u : St) (sz : Nat) (U : State) : Prop := U.heap.size = sz ∧ va_P D vwCl (wG N G h u) U.heap ∧ va_K D vwCl tys U ∧ va_D (fun _ => True) (wG N G h u) ∧ Nst U ∧ Stt (va_A (wG N G h u) sz) U U.heap
/-- a method that answers an int (or a truth value): from the world u, with these arguments, it comes to an answer and a world with Post -/
def CtI (l : Launch) (y : MethodName) (cc : ByteArray) (nL : Nat) (ret : Option FieldType) (rm : Room) (D : va_G) (tys : List (ClassId × FieldType)) (N : Nat) (G : Nat → (Nat → Int32) → va_E) (h : Nat → Nat) (As : List Value) (u : St) (Post : Int32 → St → Prop) : Prop :=
  ∀ sz : Nat, Met l y (Cond.code y cc nL ret :: wsU) rm (va_Pc As (cP D tys N G h u sz)) (va_Qi Post (cB D tys N G h (va_A (wG N G h u) sz)) (va_A (wG N G h u) sz)) 0 0 (va_A (wG N G h u) sz)
def CtV (l : Launch) (y : MethodName) (cc : ByteArray) (nL : Nat) (ret : Option FieldType) (rm : Room) (D : va_G) (tys : List (ClassId × FieldType)) (N : Nat) (G : Nat → (Nat → Int32) → va_E) (h : Nat → Nat) (As : List Value) (u : St) (Post : Int32 → St → Prop) : Prop :=
  ∀ sz : Nat, Met l y (Cond.code y cc nL ret :: wsU) rm (va_Pc As (cP D tys N G h u sz)) (va_Qv (Post 0) (cB D tys N G h (va_A (wG N G h u) sz)) (va_A (wG N G h u) sz)) 0 0 (va_A (wG N G h u) sz)
theorem goodL : ∀ w ∈ wsU, (w.onTables && w.keeps) = true ∨ ∃ ty, w = .arrayClass ty := fun w hw => good_of_word (List.all_eq_true.mp (show wsU.all goodWord = true by decide +kernel) w hw)
theorem gU {y : MethodName} {cc : ByteArray} {n : Nat} {r : Option FieldType} (hm : Cond.code y cc n r ∈ wsU) : GoodIn wsU (Cond.code y cc n r :: wsU) := fun w hw => (List.mem_cons.mp hw).elim (fun e => by rw [e]; exact ⟨hm, goodL _ hm⟩) (fun q => ⟨q, goodL _ q⟩)
theorem cP_blind {D : va_G} {tys : List (ClassId × FieldType)} {N : Nat} {G : Nat → (Nat → Int32) → va_E} {h : Nat → Nat} {u : St} {sz : Nat} {As : List Value} : FrameBlind (va_Pc As (cP D tys N G h u sz)) := fun a U g mk q => by
  obtain ⟨q0, q1, qP, qK, qD, qN, qT⟩ := q
  exact ⟨q0, q1, qP, va_K.moved (u := U) (U := U.calling g mk a) (Vm.Alike.refl U.vm) qK, qD, Nst.same (u := U) (U := U.calling g mk a) rfl qN, Stt.go (U := U.calling g mk a) qT (fun _ _ _ => rfl) (fun _ z => z) (Vm.Alike.refl U.vm)⟩
section FE
variable {l : Launch} {y : MethodName} {cc : ByteArray} {nL : Nat} {ret : Option FieldType} {rm : Room} {D : va_G} {tys : List (ClassId × FieldType)} {N : Nat} {G : Nat → (Nat → Int32) → va_E} {h : Nat → Nat} {As : List Value} {u : St} {Post : Int32 → St → Prop}
set_option maxHeartbeats 4000000 in
theorem CtI.of (hy : plainName y.cls = true) (hn : (lg_sl As).length ≤ nL)
    (body : ∀ (p : Program) (e : Env) (s : State) (m : MethodId) (below : List Frame) (meth : Method) (c : Code) (A : Nat → Prop) (ls : Array Slot), Cx p s m As.toArray meth c cc nL ret y.cls D tys A → (∀ q : Nat, s.heap.size ≤ q → A q) → wO D N G h u A s.heap s.heap [] → lv_has ls nL (lv_args 0 As) → W p l e rm s m As.toArray below meth c s.heap [] 0 0 (MQ below (va_Qi Post (cB D tys N G h A) A) As.toArray s 0 0 A) (F0 m 0 ls [])) : CtI l y cc nL ret rm D tys N G h As u Post := by
  intro sz
  refine Met.ofW (cc := cc) (maxL := nL) (ret := ret) hy rfl ?_
  intro p e s m args below meth c s₁ B hml hv
  obtain ⟨rfl, hsz, hP, hK, hD0, hNs, hSt⟩ := hv
  have hts := atoms_spec (ws := Cond.code y cc nL ret :: wsU) B.pre
  have hown : s.vm.findClass y.cls = some m.cls := findClass_of_methodNamed B.named
  subst hsz
  have hD := hD0.self (sz := s.heap.size)
  have hl := lv_entry As (n := nL) hn
  rw [lg_entry_eq]
  exact body p e s m below meth c _ _ ⟨⟨B.exec, B.bytes, hml, hown, fun w hw => hts w (List.mem_cons_of_mem _ hw)⟩, hK, ⟨hNs, hSt⟩, B.notSynchronized, B.returns⟩ (fun q hq => Or.inr hq) ⟨hP, hD, va_S.rf⟩ hl
set_option maxHeartbeats 4000000 in
theorem CtV.of (hy : plainName y.cls = true) (hn : (lg_sl As).length ≤ nL)
    (body : ∀ (p : Program) (e : Env) (s : State) (m : MethodId) (below : List Frame) (meth : Method) (c : Code) (A : Nat → Prop) (ls : Array Slot), Cx p s m As.toArray meth c cc nL ret y.cls D tys A → (∀ q : Nat, s.heap.size ≤ q → A q) → wO D N G h u A s.heap s.heap [] → lv_has ls nL (lv_args 0 As) → W p l e rm s m As.toArray below meth c s.heap [] 0 0 (MQ below (va_Qv (Post 0) (cB D tys N G h A) A) As.toArray s 0 0 A) (F0 m 0 ls [])) : CtV l y cc nL ret rm D tys N G h As u Post := by
  intro sz
  refine Met.ofW (cc := cc) (maxL := nL) (ret := ret) hy rfl ?_
  intro p e s m args below meth c s₁ B hml hv
  obtain ⟨rfl, hsz, hP, hK, hD0, hNs, hSt⟩ := hv
  have hts := atoms_spec (ws := Cond.code y cc nL ret :: wsU) B.pre
  have hown : s.vm.findClass y.cls = some m.cls := findClass_of_methodNamed B.named
  subst hsz
  have hD := hD0.self (sz := s.heap.size)
  have hl := lv_entry As (n := nL) hn
  rw [lg_entry_eq]
  exact body p e s m below meth c _ _ ⟨⟨B.exec, B.bytes, hml, hown, fun w hw => hts w (List.mem_cons_of_mem _ hw)⟩, hK, ⟨hNs, hSt⟩, B.notSynchronized, B.returns⟩ (fun q hq => Or.inr hq) ⟨hP, hD, va_S.rf⟩ hl
end FE
section FW
variable {p : Program} {l : Launch} {e : Env} {R : Room} {s : State} {m : MethodId} {args : Array Value} {below : List Frame} {meth : Method} {c : Code} {H : Heap} {locs : List Loc} {cells slots : Nat} {Q : State → Prop}
variable {cc : ByteArray} {pc nL : Nat} {ls : Array Slot} {rest : List Value} {ret : Option FieldType} {own : String} {D : va_G} {tys : List (ClassId × FieldType)} {A : Nat → Prop} {H0 : Heap} {N : Nat} {G : Nat → (Nat → Int32) → va_E} {h : Nat → Nat} {u : St}
theorem q_get (X : Cx p s m args meth c cc nL ret own D tys A) (O : wO D N G h u A H0 H locs) (k : Nat) (hk : k < N) {ci nf idx : Nat} {fs : List Value} {C ref : String} {T : u_T} (hG : G k (u k) = .inr (ci, fs)) (hc : vwCl[ci]? = some (C, T, nf)) (hin : ∀ w ∈ u_ws C T nf, w ∈ wsU) (j : Nat) (hj : j < nf) (hl : Cond.fieldLink own idx ref (T j).2.1 (T j).2.2.1 ∈ wsU) (hsame : (T j).1 = ref) {v : Value} (hv : fs[j]? = some v) (hdg : decode cc pc = .ok (.getfield idx, 3))
    (kk : W p l e R s m args below meth c H locs cells slots Q (F0 m (pc + 3) ls (v :: rest))) : W p l e R s m args below meth c H locs cells slots Q (F0 m pc ls (.ref (h k) :: rest)) := by
  obtain ⟨⟨hx, hb, hml, hown, hts⟩, hK, ⟨hNs, -⟩, -, -⟩ := X
  exact va_get hx hb hts hin hown hK O.1 k ((wG_at hk).trans (by rw [hG])) hc j hj (hts _ hl) (fun x hx => by rw [← hsame]; exact hx) hv hdg kk
theorem q_getN {host : String} (X : Cx p s m args meth c cc nL ret own D tys A) (O : wO D N G h u A H0 H locs) (k : Nat) (hk : k < N) {ci nf idx : Nat} {fs : List Value} {C ref : String} {T : u_T} (hG : G k (u k) = .inr (ci, fs)) (hc : vwCl[ci]? = some (C, T, nf)) (hin : ∀ w ∈ u_ws C T nf, w ∈ wsU) (j : Nat) (hj : j < nf) (hl : Cond.fieldLinkNest own idx ref (T j).2.1 (T j).2.2.1 host ∈ nestW) (hsame : (T j).1 = ref) {v : Value} (hv : fs[j]? = some v) (hdg : decode cc pc = .ok (.getfield idx, 3))
    (kk : W p l e R s m args below meth c H locs cells slots Q (F0 m (pc + 3) ls (v :: rest))) : W p l e R s m args below meth c H locs cells slots Q (F0 m pc ls (.ref (h k) :: rest)) := by
  obtain ⟨⟨hx, hb, hml, hown, hts⟩, hK, ⟨hNs, -⟩, -, -⟩ := X
  exact va_getN hx hb hts hin hown hK O.1 k ((wG_at hk).trans (by rw [hG])) hc j hj (va_Nw.use rfl (hNs.1 _ hl)) (fun x hx => by rw [← hsame]; exact hx) hv hdg kk
theorem q_put (X : Cx p s m args meth c cc nL ret own D tys A) (O : wO D N G h u A H0 H locs) (k : Nat) (hk : k < N) {ci nf idx : Nat} {fs : List Value} {C ref : String} {T : u_T} (hG : G k (u k) = .inr (ci, fs)) (hc : vwCl[ci]? = some (C, T, nf)) (hin : ∀ w ∈ u_ws C T nf, w ∈ wsU) (ty0 : Nat → FieldType) (hty : ∀ k, k < nf → parseFieldDescriptor (T k).2.2.1 = some (ty0 k)) (hnm : ∀ a, a < nf → ∀ b, b < nf → a ≠ b → (T a).2.1 ≠ (T b).2.1) (j : Nat) (hj : j < nf) (hl : Cond.fieldLink own idx ref (T j).2.1 (T j).2.2.1 ∈ wsU) (hsame : (T j).1 = ref) (hfin : (T j).2.2.2 = false) (hd : parseFieldDescriptor (T j).2.2.1 = some .int) (hlen : j < fs.length) {v : Int32} (hE : G k (upd (u k) j v) = .inr (ci, fs.set j (.int v))) (hdg : decode cc pc = .ok (.putfield idx, 3))
    (kk : ∀ (H1 : Heap) (locs1 : List Loc), wO D N G h (su u k j v) A H0 H1 locs1 → W p l e R s m args below meth c H1 locs1 cells slots Q (F0 m (pc + 3) ls rest)) : W p l e R s m args below meth c H locs cells slots Q (F0 m pc ls (.int v :: .ref (h k) :: rest)) := by
  obtain ⟨⟨hx, hb, hml, hown, hts⟩, hK, ⟨hNs, -⟩, -, -⟩ := X
  refine va_put (ty := .int) hx hb hts hin ty0 hty hnm hown hK O.1 O.2.1 O.2.2 k ((wG_at hk).trans (by rw [hG])) hc j hj (hts _ hl) (fun x hx => by rw [← hsame]; exact hx) hfin hd rfl rfl hlen hdg (fun H1 locs1 h1 h2 h3 => ?_)
  rw [wG_set hE] at h1 h2
  exact kk H1 locs1 ⟨h1, h2, h3⟩
theorem q_ild (X : Cx p s m args meth c cc nL ret own D tys A) (O : wO D N G h u A H0 H locs) (k t0 : Nat) (hk : k < N) {n : Nat} {cA : ClassId} (hG : G k (u k) = .inl (cA, n, .inl (u k))) (ht : tys[t0]? = some (cA, .int)) {i : Int32} (hi : vp_in i n) (hdg : decode cc pc = .ok (.iaload, 1))
    (kk : W p l e R s m args below meth c H locs cells slots Q (F0 m (pc + 1) ls (.int (u k i.toNatClampNeg) :: rest))) : W p l e R s m args below meth c H locs cells slots Q (F0 m pc ls (.int i :: .ref (h k) :: rest)) := by
  obtain ⟨⟨hx, hb, hml, hown, hts⟩, hK, ⟨hNs, -⟩, -, -⟩ := X
  exact va_iald hx hb hK O.1 k t0 ((wG_at hk).trans (by rw [hG])) ht hi hdg kk
theorem q_ist (X : Cx p s m args meth c cc nL ret own D tys A) (O : wO D N G h u A H0 H locs) (k t0 : Nat) (hk : k < N) {n : Nat} {cA : ClassId} (hG : ∀ r : Nat → Int32, G k r = .inl (cA, n, .inl r)) (ht : tys[t0]? = some (cA, .int)) {i v : Int32} (hi : vp_in i n) (hdg : decode cc pc = .ok (.iastore, 1))
    (kk : ∀ (H1 : Heap) (locs1 : List Loc), wO D N G h (su u k i.toNatClampNeg v) A H0 H1 locs1 → W p l e R s m args below meth c H1 locs1 cells slots Q (F0 m (pc + 1) ls rest)) : W p l e R s m args below meth c H locs cells slots Q (F0 m pc ls (.int v :: .int i :: .ref (h k) :: rest)) := by
  obtain ⟨⟨hx, hb, hml, hown, hts⟩, hK, ⟨hNs, -⟩, -, -⟩ := X
  refine va_iast hx hb hK O.1 O.2.1 O.2.2 k t0 ((wG_at hk).trans (by rw [hG])) ht hi hdg (fun H1 locs1 h1 h2 h3 => ?_)
  rw [wG_set (hG _)] at h1 h2
  exact kk H1 locs1 ⟨h1, h2, h3⟩
/-- a row of longs that came of ints -/
abbrev lR (r : Nat → Int32) : Nat → Int64 := fun i => (r i).toInt64
theorem lR_upd (r : Nat → Int32) (i : Nat) (v : Int32) : vp_updL (lR r) i v.toInt64 = lR (upd r i v) := by
  funext j
  by_cases e : j = i <;> simp [vp_updL, upd, lR, e]
theorem q_lld (X : Cx p s m args meth c cc nL ret own D tys A) (O : wO D N G h u A H0 H locs) (k t0 : Nat) (hk : k < N) {n : Nat} {cA : ClassId} (hG : G k (u k) = .inl (cA, n, .inr (.inl (lR (u k))))) (ht : tys[t0]? = some (cA, .long)) {i : Int32} (hi : vp_in i n) (hdg : decode cc pc = .ok (.laload, 1))
    (kk : W p l e R s m args below meth c H locs cells slots Q (F0 m (pc + 1) ls (.long ((u k i.toNatClampNeg).toInt64) :: rest))) : W p l e R s m args below meth c H locs cells slots Q (F0 m pc ls (.int i :: .ref (h k) :: rest)) := by
  obtain ⟨⟨hx, hb, hml, hown, hts⟩, hK, ⟨hNs, -⟩, -, -⟩ := X
  exact va_lald hx hb hK O.1 k t0 ((wG_at hk).trans (by rw [hG])) ht hi hdg kk
theorem q_lst (X : Cx p s m args meth c cc nL ret own D tys A) (O : wO D N G h u A H0 H locs) (k t0 : Nat) (hk : k < N) {n : Nat} {cA : ClassId} (hG : ∀ r : Nat → Int32, G k r = .inl (cA, n, .inr (.inl (lR r)))) (ht : tys[t0]? = some (cA, .long)) {i v : Int32} (hi : vp_in i n) (hdg : decode cc pc = .ok (.lastore, 1))
    (kk : ∀ (H1 : Heap) (locs1 : List Loc), wO D N G h (su u k i.toNatClampNeg v) A H0 H1 locs1 → W p l e R s m args below meth c H1 locs1 cells slots Q (F0 m (pc + 1) ls rest)) : W p l e R s m args below meth c H locs cells slots Q (F0 m pc ls (.long v.toInt64 :: .int i :: .ref (h k) :: rest)) := by
  obtain ⟨⟨hx, hb, hml, hown, hts⟩, hK, ⟨hNs, -⟩, -, -⟩ := X
  refine va_last hx hb hK O.1 O.2.1 O.2.2 k t0 ((wG_at hk).trans (by rw [hG])) ht hi hdg (fun H1 locs1 h1 h2 h3 => ?_)
  rw [lR_upd, wG_set (hG _)] at h1 h2
  exact kk H1 locs1 ⟨h1, h2, h3⟩
theorem q_iret {Post : Int32 → St → Prop} {v : Int32} (X : Cx p s m args meth c cc nL (some .int) own D tys A) (O : wO D N G h u A s.heap H locs) (hw : Post v u) (hdg : decode cc pc = .ok (.ireturn, 1)) : W p l e R s m args below meth c H locs cells slots (MQ below (va_Qi Post (cB D tys N G h A) A) args s cells slots A) (F0 m pc ls [.int v]) := by
  obtain ⟨⟨hx, hb, hml, hown, hts⟩, hK, -, hlocks, hr⟩ := X
  exact W.iret (v := v) hx hb hr (fun t ht hW => ⟨⟨v, u, rfl, hw, by rw [ht]; exact O.1, va_K.moved hW.alike hK, O.2.1⟩, O.2.2.F ht⟩) O.2.2.2.2 hdg
theorem q_zret {Post : Int32 → St → Prop} {v : Int32} (X : Cx p s m args meth c cc nL (some .boolean) own D tys A) (O : wO D N G h u A s.heap H locs) (hn : narrow .boolean (.int v) = .int v) (hw : Post v u) (hdg : decode cc pc = .ok (.ireturn, 1)) : W p l e R s m args below meth c H locs cells slots (MQ below (va_Qi Post (cB D tys N G h A) A) args s cells slots A) (F0 m pc ls [.int v]) := by
  obtain ⟨⟨hx, hb, hml, hown, hts⟩, hK, -, hlocks, hr⟩ := X
  exact W.zret (v := v) hx hb hr hn (fun t ht hW => ⟨⟨v, u, rfl, hw, by rw [ht]; exact O.1, va_K.moved hW.alike hK, O.2.1⟩, O.2.2.F ht⟩) O.2.2.2.2 hdg
theorem q_vret {Post : Int32 → St → Prop} (X : Cx p s m args meth c cc nL none own D tys A) (O : wO D N G h u A s.heap H locs) (hw : Post 0 u) (hdg : decode cc pc = .ok (.return_, 1)) : W p l e R s m args below meth c H locs cells slots (MQ below (va_Qv (Post 0) (cB D tys N G h A) A) args s cells slots A) (F0 m pc ls []) := by
  obtain ⟨⟨hx, hb, hml, hown, hts⟩, hK, -, hlocks, hr⟩ := X
  exact W.vret hx hb hr (fun t ht hW => ⟨⟨u, rfl, hw, by rw [ht]; exact O.1, va_K.moved hW.alike hK, O.2.1⟩, O.2.2.F ht⟩) O.2.2.2.2 hdg
end FW
end
section
/-! Calls inside one component: the whole world goes in, the whole world comes out. -/
/-- the words of a call of an instance method, found in the class that declares it -/
def LkV (own : String) (idx : Nat) (y : MethodName) (cy : ByteArray) (ny : Nat) (ry : Option FieldType) (n : Nat) : Prop :=
  Cond.methodLink own idx y ∈ wsU ∧ Cond.instanceMethod y ∈ wsU ∧ Cond.selects y.cls y y ∈ wsU ∧ Cond.initialized y.cls ∈ wsU ∧ Cond.code y cy ny ry ∈ wsU ∧ (y.cls ≠ "java/lang/invoke/MethodHandle" ∧ y.cls ≠ "java/lang/invoke/VarHandle" ∧ (parseMethodDescriptor y.desc).map (fun d => d.parameters.length) = some n)
/-- of a static one -/
def LkS (own : String) (idx : Nat) (y : MethodName) (cy : ByteArray) (ny : Nat) (ry : Option FieldType) (n : Nat) : Prop :=
  Cond.methodLink own idx y ∈ wsU ∧ Cond.static y ∈ wsU ∧ Cond.initialized y.cls ∈ wsU ∧ Cond.code y cy ny ry ∈ wsU ∧ (y.cls ≠ "java/lang/invoke/MethodHandle" ∧ y.cls ≠ "java/lang/invoke/VarHandle" ∧ (parseMethodDescriptor y.desc).map (fun d => d.parameters.length) = some n)
/-- of a static one that is private to a nest mate -/
def LkSN (own : String) (idx : Nat) (y : MethodName) (cy : ByteArray) (ny : Nat) (ry : Option FieldType) (n : Nat) : Prop :=
  (∃ host : String, Cond.methodLinkNest own idx y host ∈ nestW) ∧ Cond.static y ∈ wsU ∧ Cond.initialized y.cls ∈ wsU ∧ Cond.code y cy ny ry ∈ wsU ∧ (y.cls ≠ "java/lang/invoke/MethodHandle" ∧ y.cls ≠ "java/lang/invoke/VarHandle" ∧ (parseMethodDescriptor y.desc).map (fun d => d.parameters.length) = some n)
section FC
variable {p : Program} {l : Launch} {e : Env} {R : Room} {s : State} {m : MethodId} {args : Array Value} {below : List Frame} {meth : Method} {c : Code} {H : Heap} {locs : List Loc} {cells slots : Nat} {Q : State → Prop}
variable {cc : ByteArray} {pc nL : Nat} {ls : Array Slot} {rest st0 : List Value} {ret : Option FieldType} {own : String} {D : va_G} {tys : List (ClassId × FieldType)} {A : Nat → Prop} {H0 : Heap} {N : Nat} {G : Nat → (Nat → Int32) → va_E} {h : Nat → Nat} {u : St}
variable {y : MethodName} {cy : ByteArray} {ny : Nat} {ry : Option FieldType} {rm : Room} {As : List Value} {ci idx n : Nat} {Post : Int32 → St → Prop}
theorem wF_free (O : wO D N G h u A s.heap H locs) (hA : ∀ q, s.heap.size ≤ q → A q) : ∀ q, va_A (wG N G h u) H.size q → A q := by
  intro q hq
  rcases hq with ⟨k, e, hk⟩ | hq
  · exact O.2.1.2 k _ hk
  · exact hA q (Nat.le_trans O.2.2.1 hq)
set_option maxHeartbeats 4000000 in
theorem q_civ (X : Cx p s m args meth c cc nL ret own D tys A) (O : wO D N G h u A s.heap H locs) (hA : ∀ q, s.heap.size ≤ q → A q) (k : Nat) (M : CtI l y cy ny ry rm D tys N G h (.ref (h k) :: As) u Post) (L : LkV own idx y cy ny ry n) (hk : k < N) {fs : List Value} {q : vw_C} (hG : G k (u k) = .inr (ci, fs)) (hc : vwCl[ci]? = some q) (hq : q.1 = y.cls) (hn : As.length = n) (hrc : rm.cells = 0) (hrs : rm.slots = 0) (hR : rm.frames + 1 ≤ R.frames ∧ 8 + (ny + 11) + rm.locals ≤ R.locals) (hrm : (rest.map fun v => v.category).sum ≤ 8) (hsz : ls.size = nL) (hcs : cells ≤ R.cells ∧ slots ≤ R.slots) (hst : st0 = As.reverse ++ .ref (h k) :: rest) (hdg : decode cc pc = .ok (.invokevirtual idx, 3))
    (kk : ∀ (r : Int32) (u1 : St) (H1 : Heap) (locs1 : List Loc), Post r u1 → wO D N G h u1 A s.heap H1 locs1 → W p l e R s m args below meth c H1 locs1 cells slots Q (F0 m (pc + 3) ls (.int r :: rest))) : W p l e R s m args below meth c H locs cells slots Q (F0 m pc ls st0) := by
  obtain ⟨S, hK, ⟨hNs, hSt⟩, -, -⟩ := X
  obtain ⟨w1, w2, w3, w4, w5, hd⟩ := L
  have hF := wF_free O hA
  have hrv := va_recv hK O.1 hc ((wG_at hk).trans (by rw [hG]))
  rw [hq] at hrv
  refine va_calli (va_runV (As := As) (rest := rest) (C := y.cls) S (M H.size) ⟨callB_of n S.2.2.2.2 (gU w5) rfl hrc hrs (S.2.2.2.2 _ w4) (S.2.2.2.2 _ w1) hd hR, S.2.2.2.2 _ w2, S.2.2.2.2 _ w3⟩ ⟨cP_blind, hrv, fun U hU hW => ⟨rfl, by rw [hU], by rw [hU]; exact O.1, va_K.moved hW.alike hK, O.2.1.weaken (fun _ _ _ _ => trivial), hNs.warm hW, by rw [hU]; exact hSt.go O.2.2.2.1 hF hW.alike⟩⟩ rfl hn hsz hst (lv_room hrm) hdg ⟨by omega, by omega⟩) O.2.2 (fun q _ hq => hF q hq) hF (fun r u1 t H1 locs1 ht hvm hw hB hz1 hk1 hS => ?_)
  subst ht
  exact kk r u1 t.heap locs1 hw ⟨hB.1, hB.2.2.weaken (fun _ q _ hq => hF _ hq), hS⟩
set_option maxHeartbeats 4000000 in
theorem q_cvv (X : Cx p s m args meth c cc nL ret own D tys A) (O : wO D N G h u A s.heap H locs) (hA : ∀ q, s.heap.size ≤ q → A q) (k : Nat) (M : CtV l y cy ny ry rm D tys N G h (.ref (h k) :: As) u Post) (L : LkV own idx y cy ny ry n) (hk : k < N) {fs : List Value} {q : vw_C} (hG : G k (u k) = .inr (ci, fs)) (hc : vwCl[ci]? = some q) (hq : q.1 = y.cls) (hn : As.length = n) (hrc : rm.cells = 0) (hrs : rm.slots = 0) (hR : rm.frames + 1 ≤ R.frames ∧ 8 + (ny + 11) + rm.locals ≤ R.locals) (hrm : (rest.map fun v => v.category).sum ≤ 8) (hsz : ls.size = nL) (hcs : cells ≤ R.cells ∧ slots ≤ R.slots) (hst : st0 = As.reverse ++ .ref (h k) :: rest) (hdg : decode cc pc = .ok (.invokevirtual idx, 3))
    (kk : ∀ (u1 : St) (H1 : Heap) (locs1 : List Loc), Post 0 u1 → wO D N G h u1 A s.heap H1 locs1 → W p l e R s m args below meth c H1 locs1 cells slots Q (F0 m (pc + 3) ls rest)) : W p l e R s m args below meth c H locs cells slots Q (F0 m pc ls st0) := by
  obtain ⟨S, hK, ⟨hNs, hSt⟩, -, -⟩ := X
  obtain ⟨w1, w2, w3, w4, w5, hd⟩ := L
  have hF := wF_free O hA
  have hrv := va_recv hK O.1 hc ((wG_at hk).trans (by rw [hG]))
  rw [hq] at hrv
  refine va_callv (va_runV (As := As) (rest := rest) (C := y.cls) S (M H.size) ⟨callB_of n S.2.2.2.2 (gU w5) rfl hrc hrs (S.2.2.2.2 _ w4) (S.2.2.2.2 _ w1) hd hR, S.2.2.2.2 _ w2, S.2.2.2.2 _ w3⟩ ⟨cP_blind, hrv, fun U hU hW => ⟨rfl, by rw [hU], by rw [hU]; exact O.1, va_K.moved hW.alike hK, O.2.1.weaken (fun _ _ _ _ => trivial), hNs.warm hW, by rw [hU]; exact hSt.go O.2.2.2.1 hF hW.alike⟩⟩ rfl hn hsz hst (lv_room hrm) hdg ⟨by omega, by omega⟩) O.2.2 (fun q _ hq => hF q hq) hF (fun u1 t H1 locs1 ht hvm hw hB hz1 hk1 hS => ?_)
  subst ht
  exact kk u1 t.heap locs1 hw ⟨hB.1, hB.2.2.weaken (fun _ q _ hq => hF _ hq), hS⟩
set_option maxHeartbeats 4000000 in
theorem q_cis (X : Cx p s m args meth c cc nL ret own D tys A) (O : wO D N G h u A s.heap H locs) (hA : ∀ q, s.heap.size ≤ q → A q) (M : CtI l y cy ny ry rm D tys N G h As u Post) (L : LkS own idx y cy ny ry n) (hn : As.length = n) (hrc : rm.cells = 0) (hrs : rm.slots = 0) (hR : rm.frames + 1 ≤ R.frames ∧ 8 + (ny + 11) + rm.locals ≤ R.locals) (hrm : (rest.map fun v => v.category).sum ≤ 8) (hsz : ls.size = nL) (hcs : cells ≤ R.cells ∧ slots ≤ R.slots) (hst : st0 = As.reverse ++ rest) (hdg : decode cc pc = .ok (.invokestatic idx, 3))
    (kk : ∀ (r : Int32) (u1 : St) (H1 : Heap) (locs1 : List Loc), Post r u1 → wO D N G h u1 A s.heap H1 locs1 → W p l e R s m args below meth c H1 locs1 cells slots Q (F0 m (pc + 3) ls (.int r :: rest))) : W p l e R s m args below meth c H locs cells slots Q (F0 m pc ls st0) := by
  obtain ⟨S, hK, ⟨hNs, hSt⟩, -, -⟩ := X
  obtain ⟨w1, w2, w4, w5, hd⟩ := L
  have hF := wF_free O hA
  refine va_calli (va_runS (As := As) (rest := rest) S (M H.size) ⟨callB_of n S.2.2.2.2 (gU w5) rfl hrc hrs (S.2.2.2.2 _ w4) (S.2.2.2.2 _ w1) hd hR, S.2.2.2.2 _ w2⟩ ⟨cP_blind, fun U hU hW => ⟨rfl, by rw [hU], by rw [hU]; exact O.1, va_K.moved hW.alike hK, O.2.1.weaken (fun _ _ _ _ => trivial), hNs.warm hW, by rw [hU]; exact hSt.go O.2.2.2.1 hF hW.alike⟩⟩ rfl hn hsz hst (lv_room hrm) hdg ⟨by omega, by omega⟩) O.2.2 (fun q _ hq => hF q hq) hF (fun r u1 t H1 locs1 ht hvm hw hB hz1 hk1 hS => ?_)
  subst ht
  exact kk r u1 t.heap locs1 hw ⟨hB.1, hB.2.2.weaken (fun _ q _ hq => hF _ hq), hS⟩
set_option maxHeartbeats 4000000 in
theorem q_cisN (X : Cx p s m args meth c cc nL ret own D tys A) (O : wO D N G h u A s.heap H locs) (hA : ∀ q, s.heap.size ≤ q → A q) (M : CtI l y cy ny ry rm D tys N G h As u Post) (L : LkSN own idx y cy ny ry n) (hn : As.length = n) (hrc : rm.cells = 0) (hrs : rm.slots = 0) (hR : rm.frames + 1 ≤ R.frames ∧ 8 + (ny + 11) + rm.locals ≤ R.locals) (hrm : (rest.map fun v => v.category).sum ≤ 8) (hsz : ls.size = nL) (hcs : cells ≤ R.cells ∧ slots ≤ R.slots) (hst : st0 = As.reverse ++ rest) (hdg : decode cc pc = .ok (.invokestatic idx, 3))
    (kk : ∀ (r : Int32) (u1 : St) (H1 : Heap) (locs1 : List Loc), Post r u1 → wO D N G h u1 A s.heap H1 locs1 → W p l e R s m args below meth c H1 locs1 cells slots Q (F0 m (pc + 3) ls (.int r :: rest))) : W p l e R s m args below meth c H locs cells slots Q (F0 m pc ls st0) := by
  obtain ⟨S, hK, ⟨hNs, hSt⟩, -, -⟩ := X
  obtain ⟨⟨host, w1⟩, w2, w4, w5, hd⟩ := L
  have hF := wF_free O hA
  refine va_calli (va_runSN (host := host) (As := As) (rest := rest) S (M H.size) ⟨va_cnB n S.2.2.2.2 (gU w5) rfl hrc hrs (hNs.1 _ w1) (S.2.2.2.2 _ w4) hd hR, S.2.2.2.2 _ w2, trivial⟩ ⟨cP_blind, fun U hU hW => ⟨rfl, by rw [hU], by rw [hU]; exact O.1, va_K.moved hW.alike hK, O.2.1.weaken (fun _ _ _ _ => trivial), hNs.warm hW, by rw [hU]; exact hSt.go O.2.2.2.1 hF hW.alike⟩⟩ rfl hn hsz hst (lv_room hrm) hdg ⟨by omega, by omega⟩) O.2.2 (fun q _ hq => hF q hq) hF (fun r u1 t H1 locs1 ht hvm hw hB hz1 hk1 hS => ?_)
  subst ht
  exact kk r u1 t.heap locs1 hw ⟨hB.1, hB.2.2.weaken (fun _ q _ hq => hF _ hq), hS⟩
end FC
end
section
/-! the words, each by its place in the list of all -/
theorem inP1 : ∀ w ∈ wsL_law_r1, w ∈ wsU := fun _ h => List.mem_append_left _ (List.mem_append_left _ (List.mem_append_left _ (List.mem_append_left _ (List.mem_append_left _ (List.mem_append_left _ (List.mem_append_left _ (List.mem_append_left _ (List.mem_append_left _ (List.mem_append_left _ (List.mem_append_left _ (List.mem_append_left _ (List.mem_append_left _ (List.mem_append_left _ (List.mem_append_left _ (List.mem_append_left _ h)))))))))))))))
theorem inP2 : ∀ w ∈ wsL_law_r2, w ∈ wsU := fun _ h => List.mem_append_left _ (List.mem_append_left _ (List.mem_append_left _ (List.mem_append_left _ (List.mem_append_left _ (List.mem_append_left _ (List.mem_append_left _ (List.mem_append_left _ (List.mem_append_left _ (List.mem_append_left _ (List.mem_append_left _ (List.mem_append_left _ (List.mem_append_left _ (List.mem_append_left _ (List.mem_append_left _ (List.mem_append_right _ (List.mem_append_left _ h))))))))))))))))
theorem inP3 : ∀ w ∈ wsL_law_r3, w ∈ wsU := fun _ h => List.mem_append_left _ (List.mem_append_left _ (List.mem_append_left _ (List.mem_append_left _ (List.mem_append_left _ (List.mem_append_left _ (List.mem_append_left _ (List.mem_append_left _ (List.mem_append_left _ (List.mem_append_left _ (List.mem_append_left _ (List.mem_append_left _ (List.mem_append_left _ (List.mem_append_left _ (List.mem_append_left _ (List.mem_append_right _ (List.mem_append_right _ (List.mem_append_left _ h)))))))))))))))))
theorem inP4 : ∀ w ∈ wsL_law_r4, w ∈ wsU := fun _ h => List.mem_append_left _ (List.mem_append_left _ (List.mem_append_left _ (List.mem_append_left _ (List.mem_append_left _ (List.mem_append_left _ (List.mem_append_left _ (List.mem_append_left _ (List.mem_append_left _ (List.mem_append_left _ (List.mem_append_left _ (List.mem_append_left _ (List.mem_append_left _ (List.mem_append_left _ (List.mem_append_left _ (List.mem_append_right _ (List.mem_append_right _ (List.mem_append_right _ (List.mem_append_left _ h))))))))))))))))))
theorem inP5 : ∀ w ∈ wsL_law_r5, w ∈ wsU := fun _ h => List.mem_append_left _ (List.mem_append_left _ (List.mem_append_left _ (List.mem_append_left _ (List.mem_append_left _ (List.mem_append_left _ (List.mem_append_left _ (List.mem_append_left _ (List.mem_append_left _ (List.mem_append_left _ (List.mem_append_left _ (List.mem_append_left _ (List.mem_append_left _ (List.mem_append_left _ (List.mem_append_left _ (List.mem_append_right _ (List.mem_append_right _ (List.mem_append_right _ (List.mem_append_right _ (List.mem_append_left _ h)))))))))))))))))))
theorem inP6 : ∀ w ∈ wsL_law_r6, w ∈ wsU := fun _ h => List.mem_append_left _ (List.mem_append_left _ (List.mem_append_left _ (List.mem_append_left _ (List.mem_append_left _ (List.mem_append_left _ (List.mem_append_left _ (List.mem_append_left _ (List.mem_append_left _ (List.mem_append_left _ (List.mem_append_left _ (List.mem_append_left _ (List.mem_append_left _ (List.mem_append_left _ (List.mem_append_left _ (List.mem_append_right _ (List.mem_append_right _ (List.mem_append_right _ (List.mem_append_right _ (List.mem_append_right _ (List.mem_append_left _ h))))))))))))))))))))
theorem inP7 : ∀ w ∈ wsL_law_r7, w ∈ wsU := fun _ h => List.mem_append_left _ (List.mem_append_left _ (List.mem_append_left _ (List.mem_append_left _ (List.mem_append_left _ (List.mem_append_left _ (List.mem_append_left _ (List.mem_append_left _ (List.mem_append_left _ (List.mem_append_left _ (List.mem_append_left _ (List.mem_append_left _ (List.mem_append_left _ (List.mem_append_left _ (List.mem_append_left _ (List.mem_append_right _ (List.mem_append_right _ (List.mem_append_right _ (List.mem_append_right _ (List.mem_append_right _ (List.mem_append_right _ (List.mem_append_left _ h)))))))))))))))))))))
theorem inP8 : ∀ w ∈ wsL_law_r8, w ∈ wsU := fun _ h => List.mem_append_left _ (List.mem_append_left _ (List.mem_append_left _ (List.mem_append_left _ (List.mem_append_left _ (List.mem_append_left _ (List.mem_append_left _ (List.mem_append_left _ (List.mem_append_left _ (List.mem_append_left _ (List.mem_append_left _ (List.mem_append_left _ (List.mem_append_left _ (List.mem_append_left _ (List.mem_append_left _ (List.mem_append_right _ (List.mem_append_right _ (List.mem_append_right _ (List.mem_append_right _ (List.mem_append_right _ (List.mem_append_right _ (List.mem_append_right _ (List.mem_append_left _ h))))))))))))))))))))))
theorem inP9 : ∀ w ∈ wsL_law_r9, w ∈ wsU := fun _ h => List.mem_append_left _ (List.mem_append_left _ (List.mem_append_left _ (List.mem_append_left _ (List.mem_append_left _ (List.mem_append_left _ (List.mem_append_left _ (List.mem_append_left _ (List.mem_append_left _ (List.mem_append_left _ (List.mem_append_left _ (List.mem_append_left _ (List.mem_append_left _ (List.mem_append_left _ (List.mem_append_left _ (List.mem_append_right _ (List.mem_append_right _ (List.mem_append_right _ (List.mem_append_right _ (List.mem_append_right _ (List.mem_append_right _ (List.mem_append_right _ (List.mem_append_right _ (List.mem_append_left _ h)))))))))))))))))))))))
theorem inP10 : ∀ w ∈ wsL_law_r10, w ∈ wsU := fun _ h => List.mem_append_left _ (List.mem_append_left _ (List.mem_append_left _ (List.mem_append_left _ (List.mem_append_left _ (List.mem_append_left _ (List.mem_append_left _ (List.mem_append_left _ (List.mem_append_left _ (List.mem_append_left _ (List.mem_append_left _ (List.mem_append_left _ (List.mem_append_left _ (List.mem_append_left _ (List.mem_append_left _ (List.mem_append_right _ (List.mem_append_right _ (List.mem_append_right _ (List.mem_append_right _ (List.mem_append_right _ (List.mem_append_right _ (List.mem_append_right _ (List.mem_append_right _ (List.mem_append_right _ (List.mem_append_left _ h))))))))))))))))))))))))
theorem inP11 : ∀ w ∈ wsL_law_r11, w ∈ wsU := fun _ h => List.mem_append_left _ (List.mem_append_left _ (List.mem_append_left _ (List.mem_append_left _ (List.mem_append_left _ (List.mem_append_left _ (List.mem_append_left _ (List.mem_append_left _ (List.mem_append_left _ (List.mem_append_left _ (List.mem_append_left _ (List.mem_append_left _ (List.mem_append_left _ (List.mem_append_left _ (List.mem_append_left _ (List.mem_append_right _ (List.mem_append_right _ (List.mem_append_right _ (List.mem_append_right _ (List.mem_append_right _ (List.mem_append_right _ (List.mem_append_right _ (List.mem_append_right _ (List.mem_append_right _ (List.mem_append_right _ (List.mem_append_left _ h)))))))))))))))))))))))))
theorem inP12 : ∀ w ∈ wsL_law_r12, w ∈ wsU := fun _ h => List.mem_append_left _ (List.mem_append_left _ (List.mem_append_left _ (List.mem_append_left _ (List.mem_append_left _ (List.mem_append_left _ (List.mem_append_left _ (List.mem_append_left _ (List.mem_append_left _ (List.mem_append_left _ (List.mem_append_left _ (List.mem_append_left _ (List.mem_append_left _ (List.mem_append_left _ (List.mem_append_left _ (List.mem_append_right _ (List.mem_append_right _ (List.mem_append_right _ (List.mem_append_right _ (List.mem_append_right _ (List.mem_append_right _ (List.mem_append_right _ (List.mem_append_right _ (List.mem_append_right _ (List.mem_append_right _ (List.mem_append_right _ (List.mem_append_left _ h))))))))))))))))))))))))))
theorem inP13 : ∀ w ∈ wsL_law_r13, w ∈ wsU := fun _ h => List.mem_append_left _ (List.mem_append_left _ (List.mem_append_left _ (List.mem_append_left _ (List.mem_append_left _ (List.mem_append_left _ (List.mem_append_left _ (List.mem_append_left _ (List.mem_append_left _ (List.mem_append_left _ (List.mem_append_left _ (List.mem_append_left _ (List.mem_append_left _ (List.mem_append_left _ (List.mem_append_left _ (List.mem_append_right _ (List.mem_append_right _ (List.mem_append_right _ (List.mem_append_right _ (List.mem_append_right _ (List.mem_append_right _ (List.mem_append_right _ (List.mem_append_right _ (List.mem_append_right _ (List.mem_append_right _ (List.mem_append_right _ (List.mem_append_right _ (List.mem_append_left _ h)))))))))))))))))))))))))))
theorem inP14 : ∀ w ∈ wsL_law_r14, w ∈ wsU := fun _ h => List.mem_append_left _ (List.mem_append_left _ (List.mem_append_left _ (List.mem_append_left _ (List.mem_append_left _ (List.mem_append_left _ (List.mem_append_left _ (List.mem_append_left _ (List.mem_append_left _ (List.mem_append_left _ (List.mem_append_left _ (List.mem_append_left _ (List.mem_append_left _ (List.mem_append_left _ (List.mem_append_left _ (List.mem_append_right _ (List.mem_append_right _ (List.mem_append_right _ (List.mem_append_right _ (List.mem_append_right _ (List.mem_append_right _ (List.mem_append_right _ (List.mem_append_right _ (List.mem_append_right _ (List.mem_append_right _ (List.mem_append_right _ (List.mem_append_right _ (List.mem_append_right _ (List.mem_append_left _ h))))))))))))))))))))))))))))
theorem inP15 : ∀ w ∈ wsL_law_r15, w ∈ wsU := fun _ h => List.mem_append_left _ (List.mem_append_left _ (List.mem_append_left _ (List.mem_append_left _ (List.mem_append_left _ (List.mem_append_left _ (List.mem_append_left _ (List.mem_append_left _ (List.mem_append_left _ (List.mem_append_left _ (List.mem_append_left _ (List.mem_append_left _ (List.mem_append_left _ (List.mem_append_left _ (List.mem_append_left _ (List.mem_append_right _ (List.mem_append_right _ (List.mem_append_right _ (List.mem_append_right _ (List.mem_append_right _ (List.mem_append_right _ (List.mem_append_right _ (List.mem_append_right _ (List.mem_append_right _ (List.mem_append_right _ (List.mem_append_right _ (List.mem_append_right _ (List.mem_append_right _ (List.mem_append_right _ (List.mem_append_left _ h)))))))))))))))))))))))))))))
theorem inP16 : ∀ w ∈ wsL_law_r16, w ∈ wsU := fun _ h => List.mem_append_left _ (List.mem_append_left _ (List.mem_append_left _ (List.mem_append_left _ (List.mem_append_left _ (List.mem_append_left _ (List.mem_append_left _ (List.mem_append_left _ (List.mem_append_left _ (List.mem_append_left _ (List.mem_append_left _ (List.mem_append_left _ (List.mem_append_left _ (List.mem_append_left _ (List.mem_append_left _ (List.mem_append_right _ (List.mem_append_right _ (List.mem_append_right _ (List.mem_append_right _ (List.mem_append_right _ (List.mem_append_right _ (List.mem_append_right _ (List.mem_append_right _ (List.mem_append_right _ (List.mem_append_right _ (List.mem_append_right _ (List.mem_append_right _ (List.mem_append_right _ (List.mem_append_right _ (List.mem_append_right _ (List.mem_append_left _ h))))))))))))))))))))))))))))))
theorem inP17 : ∀ w ∈ wsL_law_r17, w ∈ wsU := fun _ h => List.mem_append_left _ (List.mem_append_left _ (List.mem_append_left _ (List.mem_append_left _ (List.mem_append_left _ (List.mem_append_left _ (List.mem_append_left _ (List.mem_append_left _ (List.mem_append_left _ (List.mem_append_left _ (List.mem_append_left _ (List.mem_append_left _ (List.mem_append_left _ (List.mem_append_left _ (List.mem_append_left _ (List.mem_append_right _ (List.mem_append_right _ (List.mem_append_right _ (List.mem_append_right _ (List.mem_append_right _ (List.mem_append_right _ (List.mem_append_right _ (List.mem_append_right _ (List.mem_append_right _ (List.mem_append_right _ (List.mem_append_right _ (List.mem_append_right _ (List.mem_append_right _ (List.mem_append_right _ (List.mem_append_right _ (List.mem_append_right _ (List.mem_append_left _ h)))))))))))))))))))))))))))))))
theorem inP18 : ∀ w ∈ wsL_law_r18, w ∈ wsU := fun _ h => List.mem_append_left _ (List.mem_append_left _ (List.mem_append_left _ (List.mem_append_left _ (List.mem_append_left _ (List.mem_append_left _ (List.mem_append_left _ (List.mem_append_left _ (List.mem_append_left _ (List.mem_append_left _ (List.mem_append_left _ (List.mem_append_left _ (List.mem_append_left _ (List.mem_append_left _ (List.mem_append_left _ (List.mem_append_right _ (List.mem_append_right _ (List.mem_append_right _ (List.mem_append_right _ (List.mem_append_right _ (List.mem_append_right _ (List.mem_append_right _ (List.mem_append_right _ (List.mem_append_right _ (List.mem_append_right _ (List.mem_append_right _ (List.mem_append_right _ (List.mem_append_right _ (List.mem_append_right _ (List.mem_append_right _ (List.mem_append_right _ (List.mem_append_right _ (List.mem_append_left _ h))))))))))))))))))))))))))))))))
theorem inP19 : ∀ w ∈ wsL_law_r19, w ∈ wsU := fun _ h => List.mem_append_left _ (List.mem_append_left _ (List.mem_append_left _ (List.mem_append_left _ (List.mem_append_left _ (List.mem_append_left _ (List.mem_append_left _ (List.mem_append_left _ (List.mem_append_left _ (List.mem_append_left _ (List.mem_append_left _ (List.mem_append_left _ (List.mem_append_left _ (List.mem_append_left _ (List.mem_append_left _ (List.mem_append_right _ (List.mem_append_right _ (List.mem_append_right _ (List.mem_append_right _ (List.mem_append_right _ (List.mem_append_right _ (List.mem_append_right _ (List.mem_append_right _ (List.mem_append_right _ (List.mem_append_right _ (List.mem_append_right _ (List.mem_append_right _ (List.mem_append_right _ (List.mem_append_right _ (List.mem_append_right _ (List.mem_append_right _ (List.mem_append_right _ (List.mem_append_right _ (List.mem_append_left _ h)))))))))))))))))))))))))))))))))
theorem inP20 : ∀ w ∈ wsL_law_r20, w ∈ wsU := fun _ h => List.mem_append_left _ (List.mem_append_left _ (List.mem_append_left _ (List.mem_append_left _ (List.mem_append_left _ (List.mem_append_left _ (List.mem_append_left _ (List.mem_append_left _ (List.mem_append_left _ (List.mem_append_left _ (List.mem_append_left _ (List.mem_append_left _ (List.mem_append_left _ (List.mem_append_left _ (List.mem_append_left _ (List.mem_append_right _ (List.mem_append_right _ (List.mem_append_right _ (List.mem_append_right _ (List.mem_append_right _ (List.mem_append_right _ (List.mem_append_right _ (List.mem_append_right _ (List.mem_append_right _ (List.mem_append_right _ (List.mem_append_right _ (List.mem_append_right _ (List.mem_append_right _ (List.mem_append_right _ (List.mem_append_right _ (List.mem_append_right _ (List.mem_append_right _ (List.mem_append_right _ (List.mem_append_right _ (List.mem_append_left _ h))))))))))))))))))))))))))))))))))
theorem inP21 : ∀ w ∈ wsL_law_r21, w ∈ wsU := fun _ h => List.mem_append_left _ (List.mem_append_left _ (List.mem_append_left _ (List.mem_append_left _ (List.mem_append_left _ (List.mem_append_left _ (List.mem_append_left _ (List.mem_append_left _ (List.mem_append_left _ (List.mem_append_left _ (List.mem_append_left _ (List.mem_append_left _ (List.mem_append_left _ (List.mem_append_left _ (List.mem_append_left _ (List.mem_append_right _ (List.mem_append_right _ (List.mem_append_right _ (List.mem_append_right _ (List.mem_append_right _ (List.mem_append_right _ (List.mem_append_right _ (List.mem_append_right _ (List.mem_append_right _ (List.mem_append_right _ (List.mem_append_right _ (List.mem_append_right _ (List.mem_append_right _ (List.mem_append_right _ (List.mem_append_right _ (List.mem_append_right _ (List.mem_append_right _ (List.mem_append_right _ (List.mem_append_right _ (List.mem_append_right _ (List.mem_append_left _ h)))))))))))))))))))))))))))))))))))
theorem inP22 : ∀ w ∈ wsL_law_r22, w ∈ wsU := fun _ h => List.mem_append_left _ (List.mem_append_left _ (List.mem_append_left _ (List.mem_append_left _ (List.mem_append_left _ (List.mem_append_left _ (List.mem_append_left _ (List.mem_append_left _ (List.mem_append_left _ (List.mem_append_left _ (List.mem_append_left _ (List.mem_append_left _ (List.mem_append_left _ (List.mem_append_left _ (List.mem_append_left _ (List.mem_append_right _ (List.mem_append_right _ (List.mem_append_right _ (List.mem_append_right _ (List.mem_append_right _ (List.mem_append_right _ (List.mem_append_right _ (List.mem_append_right _ (List.mem_append_right _ (List.mem_append_right _ (List.mem_append_right _ (List.mem_append_right _ (List.mem_append_right _ (List.mem_append_right _ (List.mem_append_right _ (List.mem_append_right _ (List.mem_append_right _ (List.mem_append_right _ (List.mem_append_right _ (List.mem_append_right _ (List.mem_append_right _ (List.mem_append_left _ h))))))))))))))))))))))))))))))))))))
theorem inP23 : ∀ w ∈ wsL_law_r23, w ∈ wsU := fun _ h => List.mem_append_left _ (List.mem_append_left _ (List.mem_append_left _ (List.mem_append_left _ (List.mem_append_left _ (List.mem_append_left _ (List.mem_append_left _ (List.mem_append_left _ (List.mem_append_left _ (List.mem_append_left _ (List.mem_append_left _ (List.mem_append_left _ (List.mem_append_left _ (List.mem_append_left _ (List.mem_append_left _ (List.mem_append_right _ (List.mem_append_right _ (List.mem_append_right _ (List.mem_append_right _ (List.mem_append_right _ (List.mem_append_right _ (List.mem_append_right _ (List.mem_append_right _ (List.mem_append_right _ (List.mem_append_right _ (List.mem_append_right _ (List.mem_append_right _ (List.mem_append_right _ (List.mem_append_right _ (List.mem_append_right _ (List.mem_append_right _ (List.mem_append_right _ (List.mem_append_right _ (List.mem_append_right _ (List.mem_append_right _ (List.mem_append_right _ (List.mem_append_right _ (List.mem_append_left _ h)))))))))))))))))))))))))))))))))))))
theorem inP24 : ∀ w ∈ wsL_law_r24, w ∈ wsU := fun _ h => List.mem_append_left _ (List.mem_append_left _ (List.mem_append_left _ (List.mem_append_left _ (List.mem_append_left _ (List.mem_append_left _ (List.mem_append_left _ (List.mem_append_left _ (List.mem_append_left _ (List.mem_append_left _ (List.mem_append_left _ (List.mem_append_left _ (List.mem_append_left _ (List.mem_append_left _ (List.mem_append_left _ (List.mem_append_right _ (List.mem_append_right _ (List.mem_append_right _ (List.mem_append_right _ (List.mem_append_right _ (List.mem_append_right _ (List.mem_append_right _ (List.mem_append_right _ (List.mem_append_right _ (List.mem_append_right _ (List.mem_append_right _ (List.mem_append_right _ (List.mem_append_right _ (List.mem_append_right _ (List.mem_append_right _ (List.mem_append_right _ (List.mem_append_right _ (List.mem_append_right _ (List.mem_append_right _ (List.mem_append_right _ (List.mem_append_right _ (List.mem_append_right _ (List.mem_append_right _ (List.mem_append_left _ h))))))))))))))))))))))))))))))))))))))
theorem inP25 : ∀ w ∈ wsL_law_r25, w ∈ wsU := fun _ h => List.mem_append_left _ (List.mem_append_left _ (List.mem_append_left _ (List.mem_append_left _ (List.mem_append_left _ (List.mem_append_left _ (List.mem_append_left _ (List.mem_append_left _ (List.mem_append_left _ (List.mem_append_left _ (List.mem_append_left _ (List.mem_append_left _ (List.mem_append_left _ (List.mem_append_left _ (List.mem_append_left _ (List.mem_append_right _ (List.mem_append_right _ (List.mem_append_right _ (List.mem_append_right _ (List.mem_append_right _ (List.mem_append_right _ (List.mem_append_right _ (List.mem_append_right _ (List.mem_append_right _ (List.mem_append_right _ (List.mem_append_right _ (List.mem_append_right _ (List.mem_append_right _ (List.mem_append_right _ (List.mem_append_right _ (List.mem_append_right _ (List.mem_append_right _ (List.mem_append_right _ (List.mem_append_right _ (List.mem_append_right _ (List.mem_append_right _ (List.mem_append_right _ (List.mem_append_right _ (List.mem_append_right _ (List.mem_append_left _ h)))))))))))))))))))))))))))))))))))))))
theorem inP26 : ∀ w ∈ wsL_law_r26, w ∈ wsU := fun _ h => List.mem_append_left _ (List.mem_append_left _ (List.mem_append_left _ (List.mem_append_left _ (List.mem_append_left _ (List.mem_append_left _ (List.mem_append_left _ (List.mem_append_left _ (List.mem_append_left _ (List.mem_append_left _ (List.mem_append_left _ (List.mem_append_left _ (List.mem_append_left _ (List.mem_append_left _ (List.mem_append_left _ (List.mem_append_right _ (List.mem_append_right _ (List.mem_append_right _ (List.mem_append_right _ (List.mem_append_right _ (List.mem_append_right _ (List.mem_append_right _ (List.mem_append_right _ (List.mem_append_right _ (List.mem_append_right _ (List.mem_append_right _ (List.mem_append_right _ (List.mem_append_right _ (List.mem_append_right _ (List.mem_append_right _ (List.mem_append_right _ (List.mem_append_right _ (List.mem_append_right _ (List.mem_append_right _ (List.mem_append_right _ (List.mem_append_right _ (List.mem_append_right _ (List.mem_append_right _ (List.mem_append_right _ (List.mem_append_right _ (List.mem_append_left _ h))))))))))))))))))))))))))))))))))))))))
theorem inP27 : ∀ w ∈ wsL_law_r27, w ∈ wsU := fun _ h => List.mem_append_left _ (List.mem_append_left _ (List.mem_append_left _ (List.mem_append_left _ (List.mem_append_left _ (List.mem_append_left _ (List.mem_append_left _ (List.mem_append_left _ (List.mem_append_left _ (List.mem_append_left _ (List.mem_append_left _ (List.mem_append_left _ (List.mem_append_left _ (List.mem_append_left _ (List.mem_append_left _ (List.mem_append_right _ (List.mem_append_right _ (List.mem_append_right _ (List.mem_append_right _ (List.mem_append_right _ (List.mem_append_right _ (List.mem_append_right _ (List.mem_append_right _ (List.mem_append_right _ (List.mem_append_right _ (List.mem_append_right _ (List.mem_append_right _ (List.mem_append_right _ (List.mem_append_right _ (List.mem_append_right _ (List.mem_append_right _ (List.mem_append_right _ (List.mem_append_right _ (List.mem_append_right _ (List.mem_append_right _ (List.mem_append_right _ (List.mem_append_right _ (List.mem_append_right _ (List.mem_append_right _ (List.mem_append_right _ (List.mem_append_right _ (List.mem_append_left _ h)))))))))))))))))))))))))))))))))))))))))
theorem inP28 : ∀ w ∈ wsL_law_r28, w ∈ wsU := fun _ h => List.mem_append_left _ (List.mem_append_left _ (List.mem_append_left _ (List.mem_append_left _ (List.mem_append_left _ (List.mem_append_left _ (List.mem_append_left _ (List.mem_append_left _ (List.mem_append_left _ (List.mem_append_left _ (List.mem_append_left _ (List.mem_append_left _ (List.mem_append_left _ (List.mem_append_left _ (List.mem_append_left _ (List.mem_append_right _ (List.mem_append_right _ (List.mem_append_right _ (List.mem_append_right _ (List.mem_append_right _ (List.mem_append_right _ (List.mem_append_right _ (List.mem_append_right _ (List.mem_append_right _ (List.mem_append_right _ (List.mem_append_right _ (List.mem_append_right _ (List.mem_append_right _ (List.mem_append_right _ (List.mem_append_right _ (List.mem_append_right _ (List.mem_append_right _ (List.mem_append_right _ (List.mem_append_right _ (List.mem_append_right _ (List.mem_append_right _ (List.mem_append_right _ (List.mem_append_right _ (List.mem_append_right _ (List.mem_append_right _ (List.mem_append_right _ (List.mem_append_right _ (List.mem_append_left _ h))))))))))))))))))))))))))))))))))))))))))
theorem inP29 : ∀ w ∈ wsL_law_r29, w ∈ wsU := fun _ h => List.mem_append_left _ (List.mem_append_left _ (List.mem_append_left _ (List.mem_append_left _ (List.mem_append_left _ (List.mem_append_left _ (List.mem_append_left _ (List.mem_append_left _ (List.mem_append_left _ (List.mem_append_left _ (List.mem_append_left _ (List.mem_append_left _ (List.mem_append_left _ (List.mem_append_left _ (List.mem_append_left _ (List.mem_append_right _ (List.mem_append_right _ (List.mem_append_right _ (List.mem_append_right _ (List.mem_append_right _ (List.mem_append_right _ (List.mem_append_right _ (List.mem_append_right _ (List.mem_append_right _ (List.mem_append_right _ (List.mem_append_right _ (List.mem_append_right _ (List.mem_append_right _ (List.mem_append_right _ (List.mem_append_right _ (List.mem_append_right _ (List.mem_append_right _ (List.mem_append_right _ (List.mem_append_right _ (List.mem_append_right _ (List.mem_append_right _ (List.mem_append_right _ (List.mem_append_right _ (List.mem_append_right _ (List.mem_append_right _ (List.mem_append_right _ (List.mem_append_right _ (List.mem_append_right _ (List.mem_append_left _ h)))))))))))))))))))))))))))))))))))))))))))
theorem inP30 : ∀ w ∈ wsL_law_r30, w ∈ wsU := fun _ h => List.mem_append_left _ (List.mem_append_left _ (List.mem_append_left _ (List.mem_append_left _ (List.mem_append_left _ (List.mem_append_left _ (List.mem_append_left _ (List.mem_append_left _ (List.mem_append_left _ (List.mem_append_left _ (List.mem_append_left _ (List.mem_append_left _ (List.mem_append_left _ (List.mem_append_left _ (List.mem_append_left _ (List.mem_append_right _ (List.mem_append_right _ (List.mem_append_right _ (List.mem_append_right _ (List.mem_append_right _ (List.mem_append_right _ (List.mem_append_right _ (List.mem_append_right _ (List.mem_append_right _ (List.mem_append_right _ (List.mem_append_right _ (List.mem_append_right _ (List.mem_append_right _ (List.mem_append_right _ (List.mem_append_right _ (List.mem_append_right _ (List.mem_append_right _ (List.mem_append_right _ (List.mem_append_right _ (List.mem_append_right _ (List.mem_append_right _ (List.mem_append_right _ (List.mem_append_right _ (List.mem_append_right _ (List.mem_append_right _ (List.mem_append_right _ (List.mem_append_right _ (List.mem_append_right _ (List.mem_append_right _ (List.mem_append_left _ h))))))))))))))))))))))))))))))))))))))))))))
theorem inP31 : ∀ w ∈ wsL_law_r31, w ∈ wsU := fun _ h => List.mem_append_left _ (List.mem_append_left _ (List.mem_append_left _ (List.mem_append_left _ (List.mem_append_left _ (List.mem_append_left _ (List.mem_append_left _ (List.mem_append_left _ (List.mem_append_left _ (List.mem_append_left _ (List.mem_append_left _ (List.mem_append_left _ (List.mem_append_left _ (List.mem_append_left _ (List.mem_append_left _ (List.mem_append_right _ (List.mem_append_right _ (List.mem_append_right _ (List.mem_append_right _ (List.mem_append_right _ (List.mem_append_right _ (List.mem_append_right _ (List.mem_append_right _ (List.mem_append_right _ (List.mem_append_right _ (List.mem_append_right _ (List.mem_append_right _ (List.mem_append_right _ (List.mem_append_right _ (List.mem_append_right _ (List.mem_append_right _ (List.mem_append_right _ (List.mem_append_right _ (List.mem_append_right _ (List.mem_append_right _ (List.mem_append_right _ (List.mem_append_right _ (List.mem_append_right _ (List.mem_append_right _ (List.mem_append_right _ (List.mem_append_right _ (List.mem_append_right _ (List.mem_append_right _ (List.mem_append_right _ (List.mem_append_right _ (List.mem_append_left _ h)))))))))))))))))))))))))))))))))))))))))))))
theorem inP32 : ∀ w ∈ wsL_law_r32, w ∈ wsU := fun _ h => List.mem_append_left _ (List.mem_append_left _ (List.mem_append_left _ (List.mem_append_left _ (List.mem_append_left _ (List.mem_append_left _ (List.mem_append_left _ (List.mem_append_left _ (List.mem_append_left _ (List.mem_append_left _ (List.mem_append_left _ (List.mem_append_left _ (List.mem_append_left _ (List.mem_append_left _ (List.mem_append_left _ (List.mem_append_right _ (List.mem_append_right _ (List.mem_append_right _ (List.mem_append_right _ (List.mem_append_right _ (List.mem_append_right _ (List.mem_append_right _ (List.mem_append_right _ (List.mem_append_right _ (List.mem_append_right _ (List.mem_append_right _ (List.mem_append_right _ (List.mem_append_right _ (List.mem_append_right _ (List.mem_append_right _ (List.mem_append_right _ (List.mem_append_right _ (List.mem_append_right _ (List.mem_append_right _ (List.mem_append_right _ (List.mem_append_right _ (List.mem_append_right _ (List.mem_append_right _ (List.mem_append_right _ (List.mem_append_right _ (List.mem_append_right _ (List.mem_append_right _ (List.mem_append_right _ (List.mem_append_right _ (List.mem_append_right _ (List.mem_append_right _ (List.mem_append_left _ h))))))))))))))))))))))))))))))))))))))))))))))
theorem inP33 : ∀ w ∈ wsL_law_r33, w ∈ wsU := fun _ h => List.mem_append_left _ (List.mem_append_left _ (List.mem_append_left _ (List.mem_append_left _ (List.mem_append_left _ (List.mem_append_left _ (List.mem_append_left _ (List.mem_append_left _ (List.mem_append_left _ (List.mem_append_left _ (List.mem_append_left _ (List.mem_append_left _ (List.mem_append_left _ (List.mem_append_left _ (List.mem_append_left _ (List.mem_append_right _ (List.mem_append_right _ (List.mem_append_right _ (List.mem_append_right _ (List.mem_append_right _ (List.mem_append_right _ (List.mem_append_right _ (List.mem_append_right _ (List.mem_append_right _ (List.mem_append_right _ (List.mem_append_right _ (List.mem_append_right _ (List.mem_append_right _ (List.mem_append_right _ (List.mem_append_right _ (List.mem_append_right _ (List.mem_append_right _ (List.mem_append_right _ (List.mem_append_right _ (List.mem_append_right _ (List.mem_append_right _ (List.mem_append_right _ (List.mem_append_right _ (List.mem_append_right _ (List.mem_append_right _ (List.mem_append_right _ (List.mem_append_right _ (List.mem_append_right _ (List.mem_append_right _ (List.mem_append_right _ (List.mem_append_right _ (List.mem_append_right _ (List.mem_append_left _ h)))))))))))))))))))))))))))))))))))))))))))))))
theorem inP34 : ∀ w ∈ wsL_law_r34, w ∈ wsU := fun _ h => List.mem_append_left _ (List.mem_append_left _ (List.mem_append_left _ (List.mem_append_left _ (List.mem_append_left _ (List.mem_append_left _ (List.mem_append_left _ (List.mem_append_left _ (List.mem_append_left _ (List.mem_append_left _ (List.mem_append_left _ (List.mem_append_left _ (List.mem_append_left _ (List.mem_append_left _ (List.mem_append_left _ (List.mem_append_right _ (List.mem_append_right _ (List.mem_append_right _ (List.mem_append_right _ (List.mem_append_right _ (List.mem_append_right _ (List.mem_append_right _ (List.mem_append_right _ (List.mem_append_right _ (List.mem_append_right _ (List.mem_append_right _ (List.mem_append_right _ (List.mem_append_right _ (List.mem_append_right _ (List.mem_append_right _ (List.mem_append_right _ (List.mem_append_right _ (List.mem_append_right _ (List.mem_append_right _ (List.mem_append_right _ (List.mem_append_right _ (List.mem_append_right _ (List.mem_append_right _ (List.mem_append_right _ (List.mem_append_right _ (List.mem_append_right _ (List.mem_append_right _ (List.mem_append_right _ (List.mem_append_right _ (List.mem_append_right _ (List.mem_append_right _ (List.mem_append_right _ (List.mem_append_right _ (List.mem_append_left _ h))))))))))))))))))))))))))))))))))))))))))))))))
theorem inP35 : ∀ w ∈ wsL_law_r35, w ∈ wsU := fun _ h => List.mem_append_left _ (List.mem_append_left _ (List.mem_append_left _ (List.mem_append_left _ (List.mem_append_left _ (List.mem_append_left _ (List.mem_append_left _ (List.mem_append_left _ (List.mem_append_left _ (List.mem_append_left _ (List.mem_append_left _ (List.mem_append_left _ (List.mem_append_left _ (List.mem_append_left _ (List.mem_append_left _ (List.mem_append_right _ (List.mem_append_right _ (List.mem_append_right _ (List.mem_append_right _ (List.mem_append_right _ (List.mem_append_right _ (List.mem_append_right _ (List.mem_append_right _ (List.mem_append_right _ (List.mem_append_right _ (List.mem_append_right _ (List.mem_append_right _ (List.mem_append_right _ (List.mem_append_right _ (List.mem_append_right _ (List.mem_append_right _ (List.mem_append_right _ (List.mem_append_right _ (List.mem_append_right _ (List.mem_append_right _ (List.mem_append_right _ (List.mem_append_right _ (List.mem_append_right _ (List.mem_append_right _ (List.mem_append_right _ (List.mem_append_right _ (List.mem_append_right _ (List.mem_append_right _ (List.mem_append_right _ (List.mem_append_right _ (List.mem_append_right _ (List.mem_append_right _ (List.mem_append_right _ (List.mem_append_right _ (List.mem_append_left _ h)))))))))))))))))))))))))))))))))))))))))))))))))
theorem inP36 : ∀ w ∈ wsL_law_r36, w ∈ wsU := fun _ h => List.mem_append_left _ (List.mem_append_left _ (List.mem_append_left _ (List.mem_append_left _ (List.mem_append_left _ (List.mem_append_left _ (List.mem_append_left _ (List.mem_append_left _ (List.mem_append_left _ (List.mem_append_left _ (List.mem_append_left _ (List.mem_append_left _ (List.mem_append_left _ (List.mem_append_left _ (List.mem_append_left _ (List.mem_append_right _ (List.mem_append_right _ (List.mem_append_right _ (List.mem_append_right _ (List.mem_append_right _ (List.mem_append_right _ (List.mem_append_right _ (List.mem_append_right _ (List.mem_append_right _ (List.mem_append_right _ (List.mem_append_right _ (List.mem_append_right _ (List.mem_append_right _ (List.mem_append_right _ (List.mem_append_right _ (List.mem_append_right _ (List.mem_append_right _ (List.mem_append_right _ (List.mem_append_right _ (List.mem_append_right _ (List.mem_append_right _ (List.mem_append_right _ (List.mem_append_right _ (List.mem_append_right _ (List.mem_append_right _ (List.mem_append_right _ (List.mem_append_right _ (List.mem_append_right _ (List.mem_append_right _ (List.mem_append_right _ (List.mem_append_right _ (List.mem_append_right _ (List.mem_append_right _ (List.mem_append_right _ (List.mem_append_right _ (List.mem_append_left _ h))))))))))))))))))))))))))))))))))))))))))))))))))
theorem inP37 : ∀ w ∈ wsL_law_r37, w ∈ wsU := fun _ h => List.mem_append_left _ (List.mem_append_left _ (List.mem_append_left _ (List.mem_append_left _ (List.mem_append_left _ (List.mem_append_left _ (List.mem_append_left _ (List.mem_append_left _ (List.mem_append_left _ (List.mem_append_left _ (List.mem_append_left _ (List.mem_append_left _ (List.mem_append_left _ (List.mem_append_left _ (List.mem_append_left _ (List.mem_append_right _ (List.mem_append_right _ (List.mem_append_right _ (List.mem_append_right _ (List.mem_append_right _ (List.mem_append_right _ (List.mem_append_right _ (List.mem_append_right _ (List.mem_append_right _ (List.mem_append_right _ (List.mem_append_right _ (List.mem_append_right _ (List.mem_append_right _ (List.mem_append_right _ (List.mem_append_right _ (List.mem_append_right _ (List.mem_append_right _ (List.mem_append_right _ (List.mem_append_right _ (List.mem_append_right _ (List.mem_append_right _ (List.mem_append_right _ (List.mem_append_right _ (List.mem_append_right _ (List.mem_append_right _ (List.mem_append_right _ (List.mem_append_right _ (List.mem_append_right _ (List.mem_append_right _ (List.mem_append_right _ (List.mem_append_right _ (List.mem_append_right _ (List.mem_append_right _ (List.mem_append_right _ (List.mem_append_right _ (List.mem_append_right _ (List.mem_append_left _ h)))))))))))))))))))))))))))))))))))))))))))))))))))
theorem inP38 : ∀ w ∈ wsL_law_r38, w ∈ wsU := fun _ h => List.mem_append_left _ (List.mem_append_left _ (List.mem_append_left _ (List.mem_append_left _ (List.mem_append_left _ (List.mem_append_left _ (List.mem_append_left _ (List.mem_append_left _ (List.mem_append_left _ (List.mem_append_left _ (List.mem_append_left _ (List.mem_append_left _ (List.mem_append_left _ (List.mem_append_left _ (List.mem_append_left _ (List.mem_append_right _ (List.mem_append_right _ (List.mem_append_right _ (List.mem_append_right _ (List.mem_append_right _ (List.mem_append_right _ (List.mem_append_right _ (List.mem_append_right _ (List.mem_append_right _ (List.mem_append_right _ (List.mem_append_right _ (List.mem_append_right _ (List.mem_append_right _ (List.mem_append_right _ (List.mem_append_right _ (List.mem_append_right _ (List.mem_append_right _ (List.mem_append_right _ (List.mem_append_right _ (List.mem_append_right _ (List.mem_append_right _ (List.mem_append_right _ (List.mem_append_right _ (List.mem_append_right _ (List.mem_append_right _ (List.mem_append_right _ (List.mem_append_right _ (List.mem_append_right _ (List.mem_append_right _ (List.mem_append_right _ (List.mem_append_right _ (List.mem_append_right _ (List.mem_append_right _ (List.mem_append_right _ (List.mem_append_right _ (List.mem_append_right _ (List.mem_append_right _ (List.mem_append_left _ h))))))))))))))))))))))))))))))))))))))))))))))))))))
theorem inP39 : ∀ w ∈ wsL_law_r39, w ∈ wsU := fun _ h => List.mem_append_left _ (List.mem_append_left _ (List.mem_append_left _ (List.mem_append_left _ (List.mem_append_left _ (List.mem_append_left _ (List.mem_append_left _ (List.mem_append_left _ (List.mem_append_left _ (List.mem_append_left _ (List.mem_append_left _ (List.mem_append_left _ (List.mem_append_left _ (List.mem_append_left _ (List.mem_append_left _ (List.mem_append_right _ (List.mem_append_right _ (List.mem_append_right _ (List.mem_append_right _ (List.mem_append_right _ (List.mem_append_right _ (List.mem_append_right _ (List.mem_append_right _ (List.mem_append_right _ (List.mem_append_right _ (List.mem_append_right _ (List.mem_append_right _ (List.mem_append_right _ (List.mem_append_right _ (List.mem_append_right _ (List.mem_append_right _ (List.mem_append_right _ (List.mem_append_right _ (List.mem_append_right _ (List.mem_append_right _ (List.mem_append_right _ (List.mem_append_right _ (List.mem_append_right _ (List.mem_append_right _ (List.mem_append_right _ (List.mem_append_right _ (List.mem_append_right _ (List.mem_append_right _ (List.mem_append_right _ (List.mem_append_right _ (List.mem_append_right _ (List.mem_append_right _ (List.mem_append_right _ (List.mem_append_right _ (List.mem_append_right _ (List.mem_append_right _ (List.mem_append_right _ (List.mem_append_right _ (List.mem_append_left _ h)))))))))))))))))))))))))))))))))))))))))))))))))))))
theorem inP40 : ∀ w ∈ wsL_law_r40, w ∈ wsU := fun _ h => List.mem_append_left _ (List.mem_append_left _ (List.mem_append_left _ (List.mem_append_left _ (List.mem_append_left _ (List.mem_append_left _ (List.mem_append_left _ (List.mem_append_left _ (List.mem_append_left _ (List.mem_append_left _ (List.mem_append_left _ (List.mem_append_left _ (List.mem_append_left _ (List.mem_append_left _ (List.mem_append_left _ (List.mem_append_right _ (List.mem_append_right _ (List.mem_append_right _ (List.mem_append_right _ (List.mem_append_right _ (List.mem_append_right _ (List.mem_append_right _ (List.mem_append_right _ (List.mem_append_right _ (List.mem_append_right _ (List.mem_append_right _ (List.mem_append_right _ (List.mem_append_right _ (List.mem_append_right _ (List.mem_append_right _ (List.mem_append_right _ (List.mem_append_right _ (List.mem_append_right _ (List.mem_append_right _ (List.mem_append_right _ (List.mem_append_right _ (List.mem_append_right _ (List.mem_append_right _ (List.mem_append_right _ (List.mem_append_right _ (List.mem_append_right _ (List.mem_append_right _ (List.mem_append_right _ (List.mem_append_right _ (List.mem_append_right _ (List.mem_append_right _ (List.mem_append_right _ (List.mem_append_right _ (List.mem_append_right _ (List.mem_append_right _ (List.mem_append_right _ (List.mem_append_right _ (List.mem_append_right _ (List.mem_append_right _ (List.mem_append_left _ h))))))))))))))))))))))))))))))))))))))))))))))))))))))
theorem inP41 : ∀ w ∈ wsL_law_r41, w ∈ wsU := fun _ h => List.mem_append_left _ (List.mem_append_left _ (List.mem_append_left _ (List.mem_append_left _ (List.mem_append_left _ (List.mem_append_left _ (List.mem_append_left _ (List.mem_append_left _ (List.mem_append_left _ (List.mem_append_left _ (List.mem_append_left _ (List.mem_append_left _ (List.mem_append_left _ (List.mem_append_left _ (List.mem_append_left _ (List.mem_append_right _ (List.mem_append_right _ (List.mem_append_right _ (List.mem_append_right _ (List.mem_append_right _ (List.mem_append_right _ (List.mem_append_right _ (List.mem_append_right _ (List.mem_append_right _ (List.mem_append_right _ (List.mem_append_right _ (List.mem_append_right _ (List.mem_append_right _ (List.mem_append_right _ (List.mem_append_right _ (List.mem_append_right _ (List.mem_append_right _ (List.mem_append_right _ (List.mem_append_right _ (List.mem_append_right _ (List.mem_append_right _ (List.mem_append_right _ (List.mem_append_right _ (List.mem_append_right _ (List.mem_append_right _ (List.mem_append_right _ (List.mem_append_right _ (List.mem_append_right _ (List.mem_append_right _ (List.mem_append_right _ (List.mem_append_right _ (List.mem_append_right _ (List.mem_append_right _ (List.mem_append_right _ (List.mem_append_right _ (List.mem_append_right _ (List.mem_append_right _ (List.mem_append_right _ (List.mem_append_right _ (List.mem_append_right _ (List.mem_append_left _ h)))))))))))))))))))))))))))))))))))))))))))))))))))))))
theorem inP42 : ∀ w ∈ wsL_law_r42, w ∈ wsU := fun _ h => List.mem_append_left _ (List.mem_append_left _ (List.mem_append_left _ (List.mem_append_left _ (List.mem_append_left _ (List.mem_append_left _ (List.mem_append_left _ (List.mem_append_left _ (List.mem_append_left _ (List.mem_append_left _ (List.mem_append_left _ (List.mem_append_left _ (List.mem_append_left _ (List.mem_append_left _ (List.mem_append_left _ (List.mem_append_right _ (List.mem_append_right _ (List.mem_append_right _ (List.mem_append_right _ (List.mem_append_right _ (List.mem_append_right _ (List.mem_append_right _ (List.mem_append_right _ (List.mem_append_right _ (List.mem_append_right _ (List.mem_append_right _ (List.mem_append_right _ (List.mem_append_right _ (List.mem_append_right _ (List.mem_append_right _ (List.mem_append_right _ (List.mem_append_right _ (List.mem_append_right _ (List.mem_append_right _ (List.mem_append_right _ (List.mem_append_right _ (List.mem_append_right _ (List.mem_append_right _ (List.mem_append_right _ (List.mem_append_right _ (List.mem_append_right _ (List.mem_append_right _ (List.mem_append_right _ (List.mem_append_right _ (List.mem_append_right _ (List.mem_append_right _ (List.mem_append_right _ (List.mem_append_right _ (List.mem_append_right _ (List.mem_append_right _ (List.mem_append_right _ (List.mem_append_right _ (List.mem_append_right _ (List.mem_append_right _ (List.mem_append_right _ (List.mem_append_right _ (List.mem_append_left _ h))))))))))))))))))))))))))))))))))))))))))))))))))))))))
theorem inP43 : ∀ w ∈ wsL_law_r43, w ∈ wsU := fun _ h => List.mem_append_left _ (List.mem_append_left _ (List.mem_append_left _ (List.mem_append_left _ (List.mem_append_left _ (List.mem_append_left _ (List.mem_append_left _ (List.mem_append_left _ (List.mem_append_left _ (List.mem_append_left _ (List.mem_append_left _ (List.mem_append_left _ (List.mem_append_left _ (List.mem_append_left _ (List.mem_append_left _ (List.mem_append_right _ (List.mem_append_right _ (List.mem_append_right _ (List.mem_append_right _ (List.mem_append_right _ (List.mem_append_right _ (List.mem_append_right _ (List.mem_append_right _ (List.mem_append_right _ (List.mem_append_right _ (List.mem_append_right _ (List.mem_append_right _ (List.mem_append_right _ (List.mem_append_right _ (List.mem_append_right _ (List.mem_append_right _ (List.mem_append_right _ (List.mem_append_right _ (List.mem_append_right _ (List.mem_append_right _ (List.mem_append_right _ (List.mem_append_right _ (List.mem_append_right _ (List.mem_append_right _ (List.mem_append_right _ (List.mem_append_right _ (List.mem_append_right _ (List.mem_append_right _ (List.mem_append_right _ (List.mem_append_right _ (List.mem_append_right _ (List.mem_append_right _ (List.mem_append_right _ (List.mem_append_right _ (List.mem_append_right _ (List.mem_append_right _ (List.mem_append_right _ (List.mem_append_right _ (List.mem_append_right _ (List.mem_append_right _ (List.mem_append_right _ (List.mem_append_right _ (h)))))))))))))))))))))))))))))))))))))))))))))))))))))))))
theorem wd_1_0 : Cond.classLink RL 7 RX11 ∈ wsU := inP1 _ (List.mem_of_getElem? (i := 0) rfl)
theorem wd_1_1 : Cond.instantiable RX11 8 ∈ wsU := inP1 _ (List.mem_of_getElem? (i := 1) rfl)
theorem wd_1_2 : Cond.initialized RX11 ∈ wsU := inP1 _ (List.mem_of_getElem? (i := 2) rfl)
theorem wd_1_3 : Cond.classLink RL 10 RX12 ∈ wsU := inP1 _ (List.mem_of_getElem? (i := 3) rfl)
theorem wd_1_4 : Cond.instantiable RX12 27 ∈ wsU := inP1 _ (List.mem_of_getElem? (i := 4) rfl)
theorem wd_1_5 : Cond.initialized RX12 ∈ wsU := inP1 _ (List.mem_of_getElem? (i := 5) rfl)
theorem wd_1_6 : Cond.methodLink RL 9 yX11_init ∈ wsU := inP1 _ (List.mem_of_getElem? (i := 6) rfl)
theorem wd_1_7 : Cond.instanceMethod yX11_init ∈ wsU := inP1 _ (List.mem_of_getElem? (i := 7) rfl)
theorem wd_1_8 : Cond.code yX11_init cX11_init 2 none ∈ wsU := inP1 _ (List.mem_of_getElem? (i := 8) rfl)
theorem wd_1_9 : Cond.methodLink RX11 1 objectInit ∈ wsU := inP1 _ (List.mem_of_getElem? (i := 9) rfl)
theorem wd_1_10 : Cond.instanceMethod objectInit ∈ wsU := inP1 _ (List.mem_of_getElem? (i := 10) rfl)
theorem wd_1_11 : Cond.code objectInit ⟨#[0xb1]⟩ 1 none ∈ wsU := inP1 _ (List.mem_of_getElem? (i := 11) rfl)
theorem wd_1_12 : Cond.classLink RX11 7 RX10 ∈ wsU := inP1 _ (List.mem_of_getElem? (i := 12) rfl)
theorem wd_1_13 : Cond.instantiable RX10 10 ∈ wsU := inP1 _ (List.mem_of_getElem? (i := 13) rfl)
theorem wd_1_14 : Cond.initialized RX10 ∈ wsU := inP1 _ (List.mem_of_getElem? (i := 14) rfl)
theorem wd_1_15 : Cond.fieldLink RX11 10 "FellersOrder" "yard" "LFellersOrder$Yard;" ∈ wsU := inP1 _ (List.mem_of_getElem? (i := 15) rfl)
theorem wd_1_16 : Cond.classLink RX11 16 RX7 ∈ wsU := inP1 _ (List.mem_of_getElem? (i := 16) rfl)
theorem wd_1_17 : Cond.instantiable RX7 9 ∈ wsU := inP1 _ (List.mem_of_getElem? (i := 17) rfl)
theorem wd_1_18 : Cond.initialized RX7 ∈ wsU := inP1 _ (List.mem_of_getElem? (i := 18) rfl)
theorem wd_1_19 : Cond.fieldLink RX11 19 "FellersOrder" "plan" "LFellersOrder$Plan;" ∈ wsU := inP1 _ (List.mem_of_getElem? (i := 19) rfl)
theorem wd_1_20 : Cond.classLink RX11 23 RX6 ∈ wsU := inP1 _ (List.mem_of_getElem? (i := 20) rfl)
theorem wd_1_21 : Cond.instantiable RX6 2 ∈ wsU := inP1 _ (List.mem_of_getElem? (i := 21) rfl)
theorem wd_1_22 : Cond.initialized RX6 ∈ wsU := inP1 _ (List.mem_of_getElem? (i := 22) rfl)
theorem wd_1_23 : Cond.fieldLink RX11 26 "FellersOrder" "line" "LFellersOrder$Line;" ∈ wsU := inP1 _ (List.mem_of_getElem? (i := 23) rfl)
theorem wd_2_0 : Cond.classLink RX11 30 RX2 ∈ wsU := inP2 _ (List.mem_of_getElem? (i := 0) rfl)
theorem wd_2_1 : Cond.instantiable RX2 6 ∈ wsU := inP2 _ (List.mem_of_getElem? (i := 1) rfl)
theorem wd_2_2 : Cond.initialized RX2 ∈ wsU := inP2 _ (List.mem_of_getElem? (i := 2) rfl)
theorem wd_2_3 : Cond.fieldLink RX11 33 "FellersOrder" "history" "LFellersOrder$History;" ∈ wsU := inP2 _ (List.mem_of_getElem? (i := 3) rfl)
theorem wd_2_4 : Cond.classLink RX11 37 RX0 ∈ wsU := inP2 _ (List.mem_of_getElem? (i := 4) rfl)
theorem wd_2_5 : Cond.instantiable RX0 6 ∈ wsU := inP2 _ (List.mem_of_getElem? (i := 5) rfl)
theorem wd_2_6 : Cond.initialized RX0 ∈ wsU := inP2 _ (List.mem_of_getElem? (i := 6) rfl)
theorem wd_2_7 : Cond.fieldLink RX11 40 "FellersOrder" "acting" "LFellersOrder$Acting;" ∈ wsU := inP2 _ (List.mem_of_getElem? (i := 7) rfl)
theorem wd_2_8 : Cond.classLink RX11 44 RX4 ∈ wsU := inP2 _ (List.mem_of_getElem? (i := 8) rfl)
theorem wd_2_9 : Cond.instantiable RX4 0 ∈ wsU := inP2 _ (List.mem_of_getElem? (i := 9) rfl)
theorem wd_2_10 : Cond.initialized RX4 ∈ wsU := inP2 _ (List.mem_of_getElem? (i := 10) rfl)
theorem wd_2_11 : Cond.classLink RX11 47 RX9 ∈ wsU := inP2 _ (List.mem_of_getElem? (i := 11) rfl)
theorem wd_2_12 : Cond.instantiable RX9 0 ∈ wsU := inP2 _ (List.mem_of_getElem? (i := 12) rfl)
theorem wd_2_13 : Cond.initialized RX9 ∈ wsU := inP2 _ (List.mem_of_getElem? (i := 13) rfl)
theorem wd_2_14 : Cond.classLink RX11 50 RX3 ∈ wsU := inP2 _ (List.mem_of_getElem? (i := 14) rfl)
theorem wd_2_15 : Cond.instantiable RX3 0 ∈ wsU := inP2 _ (List.mem_of_getElem? (i := 15) rfl)
theorem wd_2_16 : Cond.initialized RX3 ∈ wsU := inP2 _ (List.mem_of_getElem? (i := 16) rfl)
theorem wd_2_17 : Cond.classLink RX11 53 RX1 ∈ wsU := inP2 _ (List.mem_of_getElem? (i := 17) rfl)
theorem wd_2_18 : Cond.instantiable RX1 0 ∈ wsU := inP2 _ (List.mem_of_getElem? (i := 18) rfl)
theorem wd_2_19 : Cond.initialized RX1 ∈ wsU := inP2 _ (List.mem_of_getElem? (i := 19) rfl)
theorem wd_2_20 : Cond.classLink RX11 56 RX5 ∈ wsU := inP2 _ (List.mem_of_getElem? (i := 20) rfl)
theorem wd_2_21 : Cond.instantiable RX5 0 ∈ wsU := inP2 _ (List.mem_of_getElem? (i := 21) rfl)
theorem wd_2_22 : Cond.initialized RX5 ∈ wsU := inP2 _ (List.mem_of_getElem? (i := 22) rfl)
theorem wd_2_23 : Cond.fieldLink RX11 59 "FellersOrder" "kinds" "[LFellersOrder$JobKind;" ∈ wsU := inP2 _ (List.mem_of_getElem? (i := 23) rfl)
theorem wd_3_0 : Cond.classLink RX11 63 RX8 ∈ wsU := inP3 _ (List.mem_of_getElem? (i := 0) rfl)
theorem wd_3_1 : Cond.fieldLink RX11 65 "FellersOrder" "sheets" "[LFellersOrder$Sheet;" ∈ wsU := inP3 _ (List.mem_of_getElem? (i := 1) rfl)
theorem wd_3_2 : Cond.instantiable RX8 3 ∈ wsU := inP3 _ (List.mem_of_getElem? (i := 2) rfl)
theorem wd_3_3 : Cond.initialized RX8 ∈ wsU := inP3 _ (List.mem_of_getElem? (i := 3) rfl)
theorem wd_3_4 : Cond.fieldLink RX11 70 "FellersOrder" "latest" "I" ∈ wsU := inP3 _ (List.mem_of_getElem? (i := 4) rfl)
theorem wd_3_5 : Cond.instanceMethod yX10_init ∈ wsU := inP3 _ (List.mem_of_getElem? (i := 5) rfl)
theorem wd_3_6 : Cond.code yX10_init cX10_init 1 none ∈ wsU := inP3 _ (List.mem_of_getElem? (i := 6) rfl)
theorem wd_3_7 : Cond.methodLink RX10 5 objectInit ∈ wsU := inP3 _ (List.mem_of_getElem? (i := 7) rfl)
theorem wd_3_8 : Cond.classLink RX10 11 "[[I" ∈ wsU := inP3 _ (List.mem_of_getElem? (i := 8) rfl)
theorem wd_3_9 : Cond.arrayClass .int ∈ wsU := inP3 _ (List.mem_of_getElem? (i := 9) rfl)
theorem wd_3_10 : Cond.fieldLink RX10 13 "FellersOrder$Yard" "measures" "[[I" ∈ wsU := inP3 _ (List.mem_of_getElem? (i := 10) rfl)
theorem wd_3_11 : Cond.fieldLink RX10 16 "FellersOrder$Yard" "laid" "[I" ∈ wsU := inP3 _ (List.mem_of_getElem? (i := 11) rfl)
theorem wd_3_12 : Cond.fieldLink RX10 20 "FellersOrder$Yard" "ahead" "[I" ∈ wsU := inP3 _ (List.mem_of_getElem? (i := 12) rfl)
theorem wd_3_13 : Cond.fieldLink RX10 23 "FellersOrder$Yard" "behind" "[I" ∈ wsU := inP3 _ (List.mem_of_getElem? (i := 13) rfl)
theorem wd_3_14 : Cond.fieldLink RX10 26 "FellersOrder$Yard" "lengths" "[I" ∈ wsU := inP3 _ (List.mem_of_getElem? (i := 14) rfl)
theorem wd_3_15 : Cond.fieldLink RX10 29 "FellersOrder$Yard" "weights" "[I" ∈ wsU := inP3 _ (List.mem_of_getElem? (i := 15) rfl)
theorem wd_3_16 : Cond.fieldLink RX10 32 "FellersOrder$Yard" "needs" "[I" ∈ wsU := inP3 _ (List.mem_of_getElem? (i := 16) rfl)
theorem wd_3_17 : Cond.instanceMethod yX7_init ∈ wsU := inP3 _ (List.mem_of_getElem? (i := 17) rfl)
theorem wd_3_18 : Cond.code yX7_init cX7_init 1 none ∈ wsU := inP3 _ (List.mem_of_getElem? (i := 18) rfl)
theorem wd_3_19 : Cond.methodLink RX7 3 objectInit ∈ wsU := inP3 _ (List.mem_of_getElem? (i := 19) rfl)
theorem wd_3_20 : Cond.fieldLink RX7 9 "FellersOrder$Plan" "blockBits" "[I" ∈ wsU := inP3 _ (List.mem_of_getElem? (i := 20) rfl)
theorem wd_3_21 : Cond.fieldLink RX7 15 "FellersOrder$Plan" "blocksVersion" "I" ∈ wsU := inP3 _ (List.mem_of_getElem? (i := 21) rfl)
theorem wd_3_22 : Cond.fieldLink RX7 19 "FellersOrder$Plan" "costBehind" "[I" ∈ wsU := inP3 _ (List.mem_of_getElem? (i := 22) rfl)
theorem wd_3_23 : Cond.fieldLink RX7 22 "FellersOrder$Plan" "ordersBehind" "[I" ∈ wsU := inP3 _ (List.mem_of_getElem? (i := 23) rfl)
theorem wd_4_0 : Cond.fieldLink RX7 25 "FellersOrder$Plan" "bestRow" "[I" ∈ wsU := inP4 _ (List.mem_of_getElem? (i := 0) rfl)
theorem wd_4_1 : Cond.fieldLink RX7 28 "FellersOrder$Plan" "ordersVersion" "I" ∈ wsU := inP4 _ (List.mem_of_getElem? (i := 1) rfl)
theorem wd_4_2 : Cond.fieldLink RX7 31 "FellersOrder$Plan" "sometimesBehind" "[I" ∈ wsU := inP4 _ (List.mem_of_getElem? (i := 2) rfl)
theorem wd_4_3 : Cond.fieldLink RX7 34 "FellersOrder$Plan" "standingVersion" "I" ∈ wsU := inP4 _ (List.mem_of_getElem? (i := 3) rfl)
theorem wd_4_4 : Cond.instanceMethod yX6_init ∈ wsU := inP4 _ (List.mem_of_getElem? (i := 4) rfl)
theorem wd_4_5 : Cond.code yX6_init cX6_init 1 none ∈ wsU := inP4 _ (List.mem_of_getElem? (i := 5) rfl)
theorem wd_4_6 : Cond.methodLink RX6 3 objectInit ∈ wsU := inP4 _ (List.mem_of_getElem? (i := 6) rfl)
theorem wd_4_7 : Cond.fieldLink RX6 9 "FellersOrder$Line" "row" "[I" ∈ wsU := inP4 _ (List.mem_of_getElem? (i := 7) rfl)
theorem wd_4_8 : Cond.instanceMethod yX2_init ∈ wsU := inP4 _ (List.mem_of_getElem? (i := 8) rfl)
theorem wd_4_9 : Cond.code yX2_init cX2_init 1 none ∈ wsU := inP4 _ (List.mem_of_getElem? (i := 9) rfl)
theorem wd_4_10 : Cond.methodLink RX2 3 objectInit ∈ wsU := inP4 _ (List.mem_of_getElem? (i := 10) rfl)
theorem wd_4_11 : Cond.fieldLink RX2 9 "FellersOrder$History" "change" "[I" ∈ wsU := inP4 _ (List.mem_of_getElem? (i := 11) rfl)
theorem wd_4_12 : Cond.fieldLink RX2 15 "FellersOrder$History" "first" "[I" ∈ wsU := inP4 _ (List.mem_of_getElem? (i := 12) rfl)
theorem wd_4_13 : Cond.fieldLink RX2 18 "FellersOrder$History" "second" "[I" ∈ wsU := inP4 _ (List.mem_of_getElem? (i := 13) rfl)
theorem wd_4_14 : Cond.fieldLink RX2 21 "FellersOrder$History" "former" "[I" ∈ wsU := inP4 _ (List.mem_of_getElem? (i := 14) rfl)
theorem wd_4_15 : Cond.instanceMethod yX0_init ∈ wsU := inP4 _ (List.mem_of_getElem? (i := 15) rfl)
theorem wd_4_16 : Cond.code yX0_init cX0_init 1 none ∈ wsU := inP4 _ (List.mem_of_getElem? (i := 16) rfl)
theorem wd_4_17 : Cond.methodLink RX0 3 objectInit ∈ wsU := inP4 _ (List.mem_of_getElem? (i := 17) rfl)
theorem wd_4_18 : Cond.fieldLink RX0 9 "FellersOrder$Acting" "bodies" "[I" ∈ wsU := inP4 _ (List.mem_of_getElem? (i := 18) rfl)
theorem wd_4_19 : Cond.instanceMethod yX4_init ∈ wsU := inP4 _ (List.mem_of_getElem? (i := 19) rfl)
theorem wd_4_20 : Cond.code yX4_init cX4_init 1 none ∈ wsU := inP4 _ (List.mem_of_getElem? (i := 20) rfl)
theorem wd_4_21 : Cond.methodLink RX4 1 objectInit ∈ wsU := inP4 _ (List.mem_of_getElem? (i := 21) rfl)
theorem wd_4_22 : Cond.instanceMethod yX9_init ∈ wsU := inP4 _ (List.mem_of_getElem? (i := 22) rfl)
theorem wd_4_23 : Cond.code yX9_init cX9_init 1 none ∈ wsU := inP4 _ (List.mem_of_getElem? (i := 23) rfl)
theorem wd_5_0 : Cond.instanceMethod yX3_init ∈ wsU := inP5 _ (List.mem_of_getElem? (i := 0) rfl)
theorem wd_5_1 : Cond.code yX3_init cX3_init 1 none ∈ wsU := inP5 _ (List.mem_of_getElem? (i := 1) rfl)
theorem wd_5_2 : Cond.instanceMethod yX1_init ∈ wsU := inP5 _ (List.mem_of_getElem? (i := 2) rfl)
theorem wd_5_3 : Cond.code yX1_init cX1_init 1 none ∈ wsU := inP5 _ (List.mem_of_getElem? (i := 3) rfl)
theorem wd_5_4 : Cond.instanceMethod yX5_init ∈ wsU := inP5 _ (List.mem_of_getElem? (i := 4) rfl)
theorem wd_5_5 : Cond.code yX5_init cX5_init 1 none ∈ wsU := inP5 _ (List.mem_of_getElem? (i := 5) rfl)
theorem wd_5_6 : Cond.instanceMethod yX8_init ∈ wsU := inP5 _ (List.mem_of_getElem? (i := 6) rfl)
theorem wd_5_7 : Cond.code yX8_init cX8_init 1 none ∈ wsU := inP5 _ (List.mem_of_getElem? (i := 7) rfl)
theorem wd_5_8 : Cond.methodLink RX8 3 objectInit ∈ wsU := inP5 _ (List.mem_of_getElem? (i := 8) rfl)
theorem wd_5_9 : Cond.fieldLink RX8 9 "FellersOrder$Sheet" "numbers" "[I" ∈ wsU := inP5 _ (List.mem_of_getElem? (i := 9) rfl)
theorem wd_5_10 : Cond.fieldLink RX8 15 "FellersOrder$Sheet" "sort" "I" ∈ wsU := inP5 _ (List.mem_of_getElem? (i := 10) rfl)
theorem wd_5_11 : Cond.methodLink RL 12 yX12_init ∈ wsU := inP5 _ (List.mem_of_getElem? (i := 11) rfl)
theorem wd_5_12 : Cond.instanceMethod yX12_init ∈ wsU := inP5 _ (List.mem_of_getElem? (i := 12) rfl)
theorem wd_5_13 : Cond.code yX12_init cX12_init 2 none ∈ wsU := inP5 _ (List.mem_of_getElem? (i := 13) rfl)
theorem wd_5_14 : Cond.methodLink RX12 1 objectInit ∈ wsU := inP5 _ (List.mem_of_getElem? (i := 14) rfl)
theorem wd_5_15 : Cond.fieldLink RX12 7 "FellersOrderModel" "length" "[I" ∈ wsU := inP5 _ (List.mem_of_getElem? (i := 15) rfl)
theorem wd_5_16 : Cond.fieldLink RX12 13 "FellersOrderModel" "weight" "[I" ∈ wsU := inP5 _ (List.mem_of_getElem? (i := 16) rfl)
theorem wd_5_17 : Cond.fieldLink RX12 16 "FellersOrderModel" "moment" "[I" ∈ wsU := inP5 _ (List.mem_of_getElem? (i := 17) rfl)
theorem wd_5_18 : Cond.fieldLink RX12 19 "FellersOrderModel" "laid" "[I" ∈ wsU := inP5 _ (List.mem_of_getElem? (i := 18) rfl)
theorem wd_5_19 : Cond.fieldLink RX12 22 "FellersOrderModel" "must" "[I" ∈ wsU := inP5 _ (List.mem_of_getElem? (i := 19) rfl)
theorem wd_5_20 : Cond.fieldLink RX12 25 "FellersOrderModel" "order" "[I" ∈ wsU := inP5 _ (List.mem_of_getElem? (i := 20) rfl)
theorem wd_5_21 : Cond.fieldLink RX12 28 "FellersOrderModel" "wasJobs" "[I" ∈ wsU := inP5 _ (List.mem_of_getElem? (i := 21) rfl)
theorem wd_5_22 : Cond.fieldLink RX12 31 "FellersOrderModel" "was" "[I" ∈ wsU := inP5 _ (List.mem_of_getElem? (i := 22) rfl)
theorem wd_5_23 : Cond.fieldLink RX12 34 "FellersOrderModel" "sort" "[I" ∈ wsU := inP5 _ (List.mem_of_getElem? (i := 23) rfl)
theorem wd_6_0 : Cond.fieldLink RX12 37 "FellersOrderModel" "size" "[I" ∈ wsU := inP6 _ (List.mem_of_getElem? (i := 0) rfl)
theorem wd_6_1 : Cond.arrayClass .long ∈ wsU := inP6 _ (List.mem_of_getElem? (i := 1) rfl)
theorem wd_6_2 : Cond.fieldLink RX12 40 "FellersOrderModel" "cells" "[J" ∈ wsU := inP6 _ (List.mem_of_getElem? (i := 2) rfl)
theorem wd_6_3 : Cond.fieldLink RX12 44 "FellersOrderModel" "traced" "[I" ∈ wsU := inP6 _ (List.mem_of_getElem? (i := 3) rfl)
theorem wd_6_4 : Cond.fieldLink RX12 47 "FellersOrderModel" "setLength" "[I" ∈ wsU := inP6 _ (List.mem_of_getElem? (i := 4) rfl)
theorem wd_6_5 : Cond.fieldLink RX12 50 "FellersOrderModel" "forwards" "[I" ∈ wsU := inP6 _ (List.mem_of_getElem? (i := 5) rfl)
theorem wd_6_6 : Cond.fieldLink RX12 53 "FellersOrderModel" "ways" "[I" ∈ wsU := inP6 _ (List.mem_of_getElem? (i := 6) rfl)
theorem wd_6_7 : Cond.fieldLink RX12 56 "FellersOrderModel" "backwards" "[I" ∈ wsU := inP6 _ (List.mem_of_getElem? (i := 7) rfl)
theorem wd_6_8 : Cond.fieldLink RX12 59 "FellersOrderModel" "l" "[I" ∈ wsU := inP6 _ (List.mem_of_getElem? (i := 8) rfl)
theorem wd_6_9 : Cond.fieldLink RX12 62 "FellersOrderModel" "w" "[I" ∈ wsU := inP6 _ (List.mem_of_getElem? (i := 9) rfl)
theorem wd_6_10 : Cond.fieldLink RX12 65 "FellersOrderModel" "m" "[I" ∈ wsU := inP6 _ (List.mem_of_getElem? (i := 10) rfl)
theorem wd_6_11 : Cond.fieldLink RX12 68 "FellersOrderModel" "blockOf" "[I" ∈ wsU := inP6 _ (List.mem_of_getElem? (i := 11) rfl)
theorem wd_6_12 : Cond.methodLink RL 13 yX11_job ∈ wsU := inP6 _ (List.mem_of_getElem? (i := 12) rfl)
theorem wd_6_13 : Cond.instanceMethod yX11_job ∈ wsU := inP6 _ (List.mem_of_getElem? (i := 13) rfl)
theorem wd_6_14 : Cond.selects RX11 yX11_job yX11_job ∈ wsU := inP6 _ (List.mem_of_getElem? (i := 14) rfl)
theorem wd_6_15 : Cond.code yX11_job cX11_job 3 (some .int) ∈ wsU := inP6 _ (List.mem_of_getElem? (i := 15) rfl)
theorem wd_6_16 : Cond.methodLink RX11 74 yX10_allows ∈ wsU := inP6 _ (List.mem_of_getElem? (i := 16) rfl)
theorem wd_6_17 : Cond.static yX10_allows ∈ wsU := inP6 _ (List.mem_of_getElem? (i := 17) rfl)
theorem wd_6_18 : Cond.code yX10_allows cX10_allows 2 (some .boolean) ∈ wsU := inP6 _ (List.mem_of_getElem? (i := 18) rfl)
theorem wd_6_19 : Cond.fieldLink RX10 35 "FellersOrder$Yard" "LOWEST" "[I" ∈ wsU := inP6 _ (List.mem_of_getElem? (i := 19) rfl)
theorem wd_6_20 : Cond.fieldLink RX10 38 "FellersOrder$Yard" "HIGHEST" "[I" ∈ wsU := inP6 _ (List.mem_of_getElem? (i := 20) rfl)
theorem wd_6_21 : Cond.methodLink RX11 78 yX11_refused ∈ wsU := inP6 _ (List.mem_of_getElem? (i := 21) rfl)
theorem wd_6_22 : Cond.instanceMethod yX11_refused ∈ wsU := inP6 _ (List.mem_of_getElem? (i := 22) rfl)
theorem wd_6_23 : Cond.selects RX11 yX11_refused yX11_refused ∈ wsU := inP6 _ (List.mem_of_getElem? (i := 23) rfl)
theorem wd_7_0 : Cond.code yX11_refused cX11_refused 2 (some .int) ∈ wsU := inP7 _ (List.mem_of_getElem? (i := 0) rfl)
theorem wd_7_1 : Cond.methodLink RX11 82 yX10_isFull ∈ wsU := inP7 _ (List.mem_of_getElem? (i := 1) rfl)
theorem wd_7_2 : Cond.instanceMethod yX10_isFull ∈ wsU := inP7 _ (List.mem_of_getElem? (i := 2) rfl)
theorem wd_7_3 : Cond.selects RX10 yX10_isFull yX10_isFull ∈ wsU := inP7 _ (List.mem_of_getElem? (i := 3) rfl)
theorem wd_7_4 : Cond.code yX10_isFull cX10_isFull 1 (some .boolean) ∈ wsU := inP7 _ (List.mem_of_getElem? (i := 4) rfl)
theorem wd_7_5 : Cond.fieldLink RX10 41 "FellersOrder$Yard" "jobs" "I" ∈ wsU := inP7 _ (List.mem_of_getElem? (i := 5) rfl)
theorem wd_7_6 : Cond.methodLink RX11 86 yX11_bringJob ∈ wsU := inP7 _ (List.mem_of_getElem? (i := 6) rfl)
theorem wd_7_7 : Cond.instanceMethod yX11_bringJob ∈ wsU := inP7 _ (List.mem_of_getElem? (i := 7) rfl)
theorem wd_7_8 : Cond.selects RX11 yX11_bringJob yX11_bringJob ∈ wsU := inP7 _ (List.mem_of_getElem? (i := 8) rfl)
theorem wd_7_9 : Cond.code yX11_bringJob cX11_bringJob 4 (some .int) ∈ wsU := inP7 _ (List.mem_of_getElem? (i := 9) rfl)
theorem wd_7_10 : Cond.methodLink RX11 296 yX10_add ∈ wsU := inP7 _ (List.mem_of_getElem? (i := 10) rfl)
theorem wd_7_11 : Cond.instanceMethod yX10_add ∈ wsU := inP7 _ (List.mem_of_getElem? (i := 11) rfl)
theorem wd_7_12 : Cond.selects RX10 yX10_add yX10_add ∈ wsU := inP7 _ (List.mem_of_getElem? (i := 12) rfl)
theorem wd_7_13 : Cond.code yX10_add cX10_add 4 (some .int) ∈ wsU := inP7 _ (List.mem_of_getElem? (i := 13) rfl)
theorem wd_7_14 : Cond.methodLink RX10 55 yX10_renew ∈ wsU := inP7 _ (List.mem_of_getElem? (i := 14) rfl)
theorem wd_7_15 : Cond.instanceMethod yX10_renew ∈ wsU := inP7 _ (List.mem_of_getElem? (i := 15) rfl)
theorem wd_7_16 : Cond.selects RX10 yX10_renew yX10_renew ∈ wsU := inP7 _ (List.mem_of_getElem? (i := 16) rfl)
theorem wd_7_17 : Cond.code yX10_renew cX10_renew 1 none ∈ wsU := inP7 _ (List.mem_of_getElem? (i := 17) rfl)
theorem wd_7_18 : Cond.fieldLink RX10 48 "FellersOrder$Yard" "version" "I" ∈ wsU := inP7 _ (List.mem_of_getElem? (i := 18) rfl)
theorem wd_7_19 : Cond.methodLink RX10 78 yX10_followLaid ∈ wsU := inP7 _ (List.mem_of_getElem? (i := 19) rfl)
theorem wd_7_20 : Cond.instanceMethod yX10_followLaid ∈ wsU := inP7 _ (List.mem_of_getElem? (i := 20) rfl)
theorem wd_7_21 : Cond.selects RX10 yX10_followLaid yX10_followLaid ∈ wsU := inP7 _ (List.mem_of_getElem? (i := 21) rfl)
theorem wd_7_22 : Cond.code yX10_followLaid cX10_followLaid 3 none ∈ wsU := inP7 _ (List.mem_of_getElem? (i := 22) rfl)
theorem wd_7_23 : Cond.static yX11_hasBit ∈ wsU := inP7 _ (List.mem_of_getElem? (i := 23) rfl)
theorem wd_8_0 : Cond.code yX11_hasBit cX11_hasBit 2 (some .boolean) ∈ wsU := inP8 _ (List.mem_of_getElem? (i := 0) rfl)
theorem wd_8_1 : Cond.methodLink RX10 81 yX10_turnBehind ∈ wsU := inP8 _ (List.mem_of_getElem? (i := 1) rfl)
theorem wd_8_2 : Cond.instanceMethod yX10_turnBehind ∈ wsU := inP8 _ (List.mem_of_getElem? (i := 2) rfl)
theorem wd_8_3 : Cond.selects RX10 yX10_turnBehind yX10_turnBehind ∈ wsU := inP8 _ (List.mem_of_getElem? (i := 3) rfl)
theorem wd_8_4 : Cond.code yX10_turnBehind cX10_turnBehind 4 none ∈ wsU := inP8 _ (List.mem_of_getElem? (i := 4) rfl)
theorem wd_8_5 : Cond.methodLink RX10 84 yX10_sumHalf ∈ wsU := inP8 _ (List.mem_of_getElem? (i := 5) rfl)
theorem wd_8_6 : Cond.instanceMethod yX10_sumHalf ∈ wsU := inP8 _ (List.mem_of_getElem? (i := 6) rfl)
theorem wd_8_7 : Cond.selects RX10 yX10_sumHalf yX10_sumHalf ∈ wsU := inP8 _ (List.mem_of_getElem? (i := 7) rfl)
theorem wd_8_8 : Cond.code yX10_sumHalf cX10_sumHalf 7 none ∈ wsU := inP8 _ (List.mem_of_getElem? (i := 8) rfl)
theorem wd_8_9 : Cond.methodLink RX10 88 Lib.Math.max.name ∈ wsU := inP8 _ (List.mem_of_getElem? (i := 9) rfl)
theorem wd_8_10 : Cond.static Lib.Math.max.name ∈ wsU := inP8 _ (List.mem_of_getElem? (i := 10) rfl)
theorem wd_8_11 : Cond.initialized "java/lang/Math" ∈ wsU := inP8 _ (List.mem_of_getElem? (i := 11) rfl)
theorem wd_8_12 : Cond.code Lib.Math.max.name Lib.Math.max.code 2 (some .int) ∈ wsU := inP8 _ (List.mem_of_getElem? (i := 12) rfl)
theorem wd_8_13 : Cond.methodLink RX10 93 Lib.Math.min.name ∈ wsU := inP8 _ (List.mem_of_getElem? (i := 13) rfl)
theorem wd_8_14 : Cond.static Lib.Math.min.name ∈ wsU := inP8 _ (List.mem_of_getElem? (i := 14) rfl)
theorem wd_8_15 : Cond.code Lib.Math.min.name Lib.Math.min.code 2 (some .int) ∈ wsU := inP8 _ (List.mem_of_getElem? (i := 15) rfl)
theorem wd_8_16 : Cond.methodLink RX10 73 yJ6_numberOfTrailingZeros_0f7a4 ∈ wsU := inP8 _ (List.mem_of_getElem? (i := 16) rfl)
theorem wd_8_17 : Cond.static yJ6_numberOfTrailingZeros_0f7a4 ∈ wsU := inP8 _ (List.mem_of_getElem? (i := 17) rfl)
theorem wd_8_18 : Cond.initialized RJ6 ∈ wsU := inP8 _ (List.mem_of_getElem? (i := 18) rfl)
theorem wd_8_19 : Cond.code yJ6_numberOfTrailingZeros_0f7a4 cJ6_numberOfTrailingZeros_0f7a4 2 (some .int) ∈ wsU := inP8 _ (List.mem_of_getElem? (i := 19) rfl)
theorem wd_8_20 : Cond.constant RJ6 264 (65536) ∈ wsU := inP8 _ (List.mem_of_getElem? (i := 20) rfl)
theorem wd_8_21 : Cond.methodLink RX11 104 yX2_keep ∈ wsU := inP8 _ (List.mem_of_getElem? (i := 21) rfl)
theorem wd_8_22 : Cond.instanceMethod yX2_keep ∈ wsU := inP8 _ (List.mem_of_getElem? (i := 22) rfl)
theorem wd_8_23 : Cond.selects RX2 yX2_keep yX2_keep ∈ wsU := inP8 _ (List.mem_of_getElem? (i := 23) rfl)
theorem wd_9_0 : Cond.code yX2_keep cX2_keep 5 none ∈ wsU := inP9 _ (List.mem_of_getElem? (i := 0) rfl)
theorem wd_9_1 : Cond.fieldLink RX2 28 "FellersOrder$History" "next" "I" ∈ wsU := inP9 _ (List.mem_of_getElem? (i := 1) rfl)
theorem wd_9_2 : Cond.fieldLink RX2 24 "FellersOrder$History" "size" "I" ∈ wsU := inP9 _ (List.mem_of_getElem? (i := 2) rfl)
theorem wd_9_3 : Cond.methodLink RX2 31 Lib.Math.min.name ∈ wsU := inP9 _ (List.mem_of_getElem? (i := 3) rfl)
theorem wd_9_4 : Cond.methodLink RX11 90 yX11_done ∈ wsU := inP9 _ (List.mem_of_getElem? (i := 4) rfl)
theorem wd_9_5 : Cond.instanceMethod yX11_done ∈ wsU := inP9 _ (List.mem_of_getElem? (i := 5) rfl)
theorem wd_9_6 : Cond.selects RX11 yX11_done yX11_done ∈ wsU := inP9 _ (List.mem_of_getElem? (i := 6) rfl)
theorem wd_9_7 : Cond.code yX11_done cX11_done 2 (some .int) ∈ wsU := inP9 _ (List.mem_of_getElem? (i := 7) rfl)
theorem wd_9_8 : Cond.methodLink RL 17 yX12_job ∈ wsU := inP9 _ (List.mem_of_getElem? (i := 8) rfl)
theorem wd_9_9 : Cond.instanceMethod yX12_job ∈ wsU := inP9 _ (List.mem_of_getElem? (i := 9) rfl)
theorem wd_9_10 : Cond.selects RX12 yX12_job yX12_job ∈ wsU := inP9 _ (List.mem_of_getElem? (i := 10) rfl)
theorem wd_9_11 : Cond.code yX12_job cX12_job 3 (some .int) ∈ wsU := inP9 _ (List.mem_of_getElem? (i := 11) rfl)
theorem wd_9_12 : Cond.fieldLink RX12 75 "FellersOrderModel" "jobs" "I" ∈ wsU := inP9 _ (List.mem_of_getElem? (i := 12) rfl)
theorem wd_9_13 : Cond.methodLink RX12 78 yX12_in ∈ wsU := inP9 _ (List.mem_of_getElem? (i := 13) rfl)
theorem wd_9_14 : Cond.static yX12_in ∈ wsU := inP9 _ (List.mem_of_getElem? (i := 14) rfl)
theorem wd_9_15 : Cond.code yX12_in cX12_in 3 (some .boolean) ∈ wsU := inP9 _ (List.mem_of_getElem? (i := 15) rfl)
theorem wd_9_16 : Cond.methodLink RX12 89 yX12_refused ∈ wsU := inP9 _ (List.mem_of_getElem? (i := 16) rfl)
theorem wd_9_17 : Cond.instanceMethod yX12_refused ∈ wsU := inP9 _ (List.mem_of_getElem? (i := 17) rfl)
theorem wd_9_18 : Cond.selects RX12 yX12_refused yX12_refused ∈ wsU := inP9 _ (List.mem_of_getElem? (i := 18) rfl)
theorem wd_9_19 : Cond.code yX12_refused cX12_refused 2 (some .int) ∈ wsU := inP9 _ (List.mem_of_getElem? (i := 19) rfl)
theorem wd_9_20 : Cond.fieldLink RX12 71 "FellersOrderModel" "status" "I" ∈ wsU := inP9 _ (List.mem_of_getElem? (i := 20) rfl)
theorem wd_9_21 : Cond.methodLink RX12 102 yX12_made ∈ wsU := inP9 _ (List.mem_of_getElem? (i := 21) rfl)
theorem wd_9_22 : Cond.instanceMethod yX12_made ∈ wsU := inP9 _ (List.mem_of_getElem? (i := 22) rfl)
theorem wd_9_23 : Cond.selects RX12 yX12_made yX12_made ∈ wsU := inP9 _ (List.mem_of_getElem? (i := 23) rfl)
theorem wd_10_0 : Cond.code yX12_made cX12_made 3 (some .int) ∈ wsU := inP10 _ (List.mem_of_getElem? (i := 0) rfl)
theorem wd_10_1 : Cond.methodLink RX12 99 yX12_keep ∈ wsU := inP10 _ (List.mem_of_getElem? (i := 1) rfl)
theorem wd_10_2 : Cond.instanceMethod yX12_keep ∈ wsU := inP10 _ (List.mem_of_getElem? (i := 2) rfl)
theorem wd_10_3 : Cond.selects RX12 yX12_keep yX12_keep ∈ wsU := inP10 _ (List.mem_of_getElem? (i := 3) rfl)
theorem wd_10_4 : Cond.code yX12_keep cX12_keep 3 none ∈ wsU := inP10 _ (List.mem_of_getElem? (i := 4) rfl)
theorem wd_10_5 : Cond.fieldLink RX12 86 "FellersOrderModel" "changes" "I" ∈ wsU := inP10 _ (List.mem_of_getElem? (i := 5) rfl)
theorem wd_10_6 : Cond.methodLink RX12 96 yX12_done ∈ wsU := inP10 _ (List.mem_of_getElem? (i := 6) rfl)
theorem wd_10_7 : Cond.instanceMethod yX12_done ∈ wsU := inP10 _ (List.mem_of_getElem? (i := 7) rfl)
theorem wd_10_8 : Cond.selects RX12 yX12_done yX12_done ∈ wsU := inP10 _ (List.mem_of_getElem? (i := 8) rfl)
theorem wd_10_9 : Cond.code yX12_done cX12_done 2 (some .int) ∈ wsU := inP10 _ (List.mem_of_getElem? (i := 9) rfl)
theorem wd_10_10 : Cond.methodLink RL 18 yX11_set ∈ wsU := inP10 _ (List.mem_of_getElem? (i := 10) rfl)
theorem wd_10_11 : Cond.instanceMethod yX11_set ∈ wsU := inP10 _ (List.mem_of_getElem? (i := 11) rfl)
theorem wd_10_12 : Cond.selects RX11 yX11_set yX11_set ∈ wsU := inP10 _ (List.mem_of_getElem? (i := 12) rfl)
theorem wd_10_13 : Cond.code yX11_set cX11_set 5 (some .int) ∈ wsU := inP10 _ (List.mem_of_getElem? (i := 13) rfl)
theorem wd_10_14 : Cond.methodLink RX11 93 yX10_has ∈ wsU := inP10 _ (List.mem_of_getElem? (i := 14) rfl)
theorem wd_10_15 : Cond.instanceMethod yX10_has ∈ wsU := inP10 _ (List.mem_of_getElem? (i := 15) rfl)
theorem wd_10_16 : Cond.selects RX10 yX10_has yX10_has ∈ wsU := inP10 _ (List.mem_of_getElem? (i := 16) rfl)
theorem wd_10_17 : Cond.code yX10_has cX10_has 2 (some .boolean) ∈ wsU := inP10 _ (List.mem_of_getElem? (i := 17) rfl)
theorem wd_10_18 : Cond.methodLink RX11 97 yX10_measure ∈ wsU := inP10 _ (List.mem_of_getElem? (i := 18) rfl)
theorem wd_10_19 : Cond.instanceMethod yX10_measure ∈ wsU := inP10 _ (List.mem_of_getElem? (i := 19) rfl)
theorem wd_10_20 : Cond.selects RX10 yX10_measure yX10_measure ∈ wsU := inP10 _ (List.mem_of_getElem? (i := 20) rfl)
theorem wd_10_21 : Cond.code yX10_measure cX10_measure 3 (some .int) ∈ wsU := inP10 _ (List.mem_of_getElem? (i := 21) rfl)
theorem wd_10_22 : Cond.methodLink RX11 100 yX10_measureAnew ∈ wsU := inP10 _ (List.mem_of_getElem? (i := 22) rfl)
theorem wd_10_23 : Cond.instanceMethod yX10_measureAnew ∈ wsU := inP10 _ (List.mem_of_getElem? (i := 23) rfl)
theorem wd_11_0 : Cond.selects RX10 yX10_measureAnew yX10_measureAnew ∈ wsU := inP11 _ (List.mem_of_getElem? (i := 0) rfl)
theorem wd_11_1 : Cond.code yX10_measureAnew cX10_measureAnew 4 none ∈ wsU := inP11 _ (List.mem_of_getElem? (i := 1) rfl)
theorem wd_11_2 : Cond.methodLink RL 22 yX12_set ∈ wsU := inP11 _ (List.mem_of_getElem? (i := 2) rfl)
theorem wd_11_3 : Cond.instanceMethod yX12_set ∈ wsU := inP11 _ (List.mem_of_getElem? (i := 3) rfl)
theorem wd_11_4 : Cond.selects RX12 yX12_set yX12_set ∈ wsU := inP11 _ (List.mem_of_getElem? (i := 4) rfl)
theorem wd_11_5 : Cond.code yX12_set cX12_set 6 (some .int) ∈ wsU := inP11 _ (List.mem_of_getElem? (i := 5) rfl)
theorem wd_11_6 : Cond.methodLink RX12 106 yX12_isJob ∈ wsU := inP11 _ (List.mem_of_getElem? (i := 6) rfl)
theorem wd_11_7 : Cond.instanceMethod yX12_isJob ∈ wsU := inP11 _ (List.mem_of_getElem? (i := 7) rfl)
theorem wd_11_8 : Cond.selects RX12 yX12_isJob yX12_isJob ∈ wsU := inP11 _ (List.mem_of_getElem? (i := 8) rfl)
theorem wd_11_9 : Cond.code yX12_isJob cX12_isJob 2 (some .boolean) ∈ wsU := inP11 _ (List.mem_of_getElem? (i := 9) rfl)
theorem wd_11_10 : Cond.methodLink RL 23 yX11_lay ∈ wsU := inP11 _ (List.mem_of_getElem? (i := 10) rfl)
theorem wd_11_11 : Cond.instanceMethod yX11_lay ∈ wsU := inP11 _ (List.mem_of_getElem? (i := 11) rfl)
theorem wd_11_12 : Cond.selects RX11 yX11_lay yX11_lay ∈ wsU := inP11 _ (List.mem_of_getElem? (i := 12) rfl)
theorem wd_11_13 : Cond.code yX11_lay cX11_lay 3 (some .int) ∈ wsU := inP11 _ (List.mem_of_getElem? (i := 13) rfl)
theorem wd_11_14 : Cond.methodLink RX11 108 yX10_isLaid ∈ wsU := inP11 _ (List.mem_of_getElem? (i := 14) rfl)
theorem wd_11_15 : Cond.instanceMethod yX10_isLaid ∈ wsU := inP11 _ (List.mem_of_getElem? (i := 15) rfl)
theorem wd_11_16 : Cond.selects RX10 yX10_isLaid yX10_isLaid ∈ wsU := inP11 _ (List.mem_of_getElem? (i := 16) rfl)
theorem wd_11_17 : Cond.code yX10_isLaid cX10_isLaid 3 (some .boolean) ∈ wsU := inP11 _ (List.mem_of_getElem? (i := 17) rfl)
theorem wd_11_18 : Cond.methodLink RX11 111 yX10_isAhead ∈ wsU := inP11 _ (List.mem_of_getElem? (i := 18) rfl)
theorem wd_11_19 : Cond.instanceMethod yX10_isAhead ∈ wsU := inP11 _ (List.mem_of_getElem? (i := 19) rfl)
theorem wd_11_20 : Cond.selects RX10 yX10_isAhead yX10_isAhead ∈ wsU := inP11 _ (List.mem_of_getElem? (i := 20) rfl)
theorem wd_11_21 : Cond.code yX10_isAhead cX10_isAhead 3 (some .boolean) ∈ wsU := inP11 _ (List.mem_of_getElem? (i := 21) rfl)
theorem wd_11_22 : Cond.methodLink RX11 114 yX10_bind ∈ wsU := inP11 _ (List.mem_of_getElem? (i := 22) rfl)
theorem wd_11_23 : Cond.instanceMethod yX10_bind ∈ wsU := inP11 _ (List.mem_of_getElem? (i := 23) rfl)
theorem wd_12_0 : Cond.selects RX10 yX10_bind yX10_bind ∈ wsU := inP12 _ (List.mem_of_getElem? (i := 0) rfl)
theorem wd_12_1 : Cond.code yX10_bind cX10_bind 3 none ∈ wsU := inP12 _ (List.mem_of_getElem? (i := 1) rfl)
theorem wd_12_2 : Cond.fieldLink RX10 45 "FellersOrder$Yard" "laidPairs" "I" ∈ wsU := inP12 _ (List.mem_of_getElem? (i := 2) rfl)
theorem wd_12_3 : Cond.methodLink RL 26 yX12_lay ∈ wsU := inP12 _ (List.mem_of_getElem? (i := 3) rfl)
theorem wd_12_4 : Cond.instanceMethod yX12_lay ∈ wsU := inP12 _ (List.mem_of_getElem? (i := 4) rfl)
theorem wd_12_5 : Cond.selects RX12 yX12_lay yX12_lay ∈ wsU := inP12 _ (List.mem_of_getElem? (i := 5) rfl)
theorem wd_12_6 : Cond.code yX12_lay cX12_lay 3 (some .int) ∈ wsU := inP12 _ (List.mem_of_getElem? (i := 6) rfl)
theorem wd_12_7 : Cond.methodLink RX12 110 yX12_close ∈ wsU := inP12 _ (List.mem_of_getElem? (i := 7) rfl)
theorem wd_12_8 : Cond.instanceMethod yX12_close ∈ wsU := inP12 _ (List.mem_of_getElem? (i := 8) rfl)
theorem wd_12_9 : Cond.selects RX12 yX12_close yX12_close ∈ wsU := inP12 _ (List.mem_of_getElem? (i := 9) rfl)
theorem wd_12_10 : Cond.code yX12_close cX12_close 3 none ∈ wsU := inP12 _ (List.mem_of_getElem? (i := 10) rfl)
theorem wd_12_11 : Cond.methodLink RX12 82 yX12_has ∈ wsU := inP12 _ (List.mem_of_getElem? (i := 11) rfl)
theorem wd_12_12 : Cond.static yX12_has ∈ wsU := inP12 _ (List.mem_of_getElem? (i := 12) rfl)
theorem wd_12_13 : Cond.code yX12_has cX12_has 2 (some .boolean) ∈ wsU := inP12 _ (List.mem_of_getElem? (i := 13) rfl)
theorem wd_12_14 : Cond.methodLink RL 27 yX11_free ∈ wsU := inP12 _ (List.mem_of_getElem? (i := 14) rfl)
theorem wd_12_15 : Cond.instanceMethod yX11_free ∈ wsU := inP12 _ (List.mem_of_getElem? (i := 15) rfl)
theorem wd_12_16 : Cond.selects RX11 yX11_free yX11_free ∈ wsU := inP12 _ (List.mem_of_getElem? (i := 16) rfl)
theorem wd_12_17 : Cond.code yX11_free cX11_free 3 (some .int) ∈ wsU := inP12 _ (List.mem_of_getElem? (i := 17) rfl)
theorem wd_12_18 : Cond.methodLink RX11 118 yX10_unbind ∈ wsU := inP12 _ (List.mem_of_getElem? (i := 18) rfl)
theorem wd_12_19 : Cond.instanceMethod yX10_unbind ∈ wsU := inP12 _ (List.mem_of_getElem? (i := 19) rfl)
theorem wd_12_20 : Cond.selects RX10 yX10_unbind yX10_unbind ∈ wsU := inP12 _ (List.mem_of_getElem? (i := 20) rfl)
theorem wd_12_21 : Cond.code yX10_unbind cX10_unbind 3 none ∈ wsU := inP12 _ (List.mem_of_getElem? (i := 21) rfl)
theorem wd_12_22 : Cond.methodLink RL 30 yX12_free ∈ wsU := inP12 _ (List.mem_of_getElem? (i := 22) rfl)
theorem wd_12_23 : Cond.instanceMethod yX12_free ∈ wsU := inP12 _ (List.mem_of_getElem? (i := 23) rfl)
theorem wd_13_0 : Cond.selects RX12 yX12_free yX12_free ∈ wsU := inP13 _ (List.mem_of_getElem? (i := 0) rfl)
theorem wd_13_1 : Cond.code yX12_free cX12_free 3 (some .int) ∈ wsU := inP13 _ (List.mem_of_getElem? (i := 1) rfl)
theorem wd_13_2 : Cond.methodLink RL 31 yX11_put ∈ wsU := inP13 _ (List.mem_of_getElem? (i := 2) rfl)
theorem wd_13_3 : Cond.instanceMethod yX11_put ∈ wsU := inP13 _ (List.mem_of_getElem? (i := 3) rfl)
theorem wd_13_4 : Cond.selects RX11 yX11_put yX11_put ∈ wsU := inP13 _ (List.mem_of_getElem? (i := 4) rfl)
theorem wd_13_5 : Cond.code yX11_put cX11_put 2 (some .int) ∈ wsU := inP13 _ (List.mem_of_getElem? (i := 5) rfl)
theorem wd_13_6 : Cond.methodLink RX11 121 yX6_placeOf ∈ wsU := inP13 _ (List.mem_of_getElem? (i := 6) rfl)
theorem wd_13_7 : Cond.instanceMethod yX6_placeOf ∈ wsU := inP13 _ (List.mem_of_getElem? (i := 7) rfl)
theorem wd_13_8 : Cond.selects RX6 yX6_placeOf yX6_placeOf ∈ wsU := inP13 _ (List.mem_of_getElem? (i := 8) rfl)
theorem wd_13_9 : Cond.code yX6_placeOf cX6_placeOf 3 (some .int) ∈ wsU := inP13 _ (List.mem_of_getElem? (i := 9) rfl)
theorem wd_13_10 : Cond.fieldLink RX6 15 "FellersOrder$Line" "size" "I" ∈ wsU := inP13 _ (List.mem_of_getElem? (i := 10) rfl)
theorem wd_13_11 : Cond.methodLink RX11 124 yX6_append ∈ wsU := inP13 _ (List.mem_of_getElem? (i := 11) rfl)
theorem wd_13_12 : Cond.instanceMethod yX6_append ∈ wsU := inP13 _ (List.mem_of_getElem? (i := 12) rfl)
theorem wd_13_13 : Cond.selects RX6 yX6_append yX6_append ∈ wsU := inP13 _ (List.mem_of_getElem? (i := 13) rfl)
theorem wd_13_14 : Cond.code yX6_append cX6_append 2 none ∈ wsU := inP13 _ (List.mem_of_getElem? (i := 14) rfl)
theorem wd_13_15 : Cond.methodLink RX11 128 yX6_size ∈ wsU := inP13 _ (List.mem_of_getElem? (i := 15) rfl)
theorem wd_13_16 : Cond.instanceMethod yX6_size ∈ wsU := inP13 _ (List.mem_of_getElem? (i := 16) rfl)
theorem wd_13_17 : Cond.selects RX6 yX6_size yX6_size ∈ wsU := inP13 _ (List.mem_of_getElem? (i := 17) rfl)
theorem wd_13_18 : Cond.code yX6_size cX6_size 1 (some .int) ∈ wsU := inP13 _ (List.mem_of_getElem? (i := 18) rfl)
theorem wd_13_19 : Cond.methodLink RL 35 yX12_put ∈ wsU := inP13 _ (List.mem_of_getElem? (i := 19) rfl)
theorem wd_13_20 : Cond.instanceMethod yX12_put ∈ wsU := inP13 _ (List.mem_of_getElem? (i := 20) rfl)
theorem wd_13_21 : Cond.selects RX12 yX12_put yX12_put ∈ wsU := inP13 _ (List.mem_of_getElem? (i := 21) rfl)
theorem wd_13_22 : Cond.code yX12_put cX12_put 2 (some .int) ∈ wsU := inP13 _ (List.mem_of_getElem? (i := 22) rfl)
theorem wd_13_23 : Cond.fieldLink RX12 93 "FellersOrderModel" "ordered" "I" ∈ wsU := inP13 _ (List.mem_of_getElem? (i := 23) rfl)
theorem wd_14_0 : Cond.methodLink RX12 113 yX12_placeOf ∈ wsU := inP14 _ (List.mem_of_getElem? (i := 0) rfl)
theorem wd_14_1 : Cond.instanceMethod yX12_placeOf ∈ wsU := inP14 _ (List.mem_of_getElem? (i := 1) rfl)
theorem wd_14_2 : Cond.selects RX12 yX12_placeOf yX12_placeOf ∈ wsU := inP14 _ (List.mem_of_getElem? (i := 2) rfl)
theorem wd_14_3 : Cond.code yX12_placeOf cX12_placeOf 3 (some .int) ∈ wsU := inP14 _ (List.mem_of_getElem? (i := 3) rfl)
theorem wd_14_4 : Cond.methodLink RL 36 yX11_clear ∈ wsU := inP14 _ (List.mem_of_getElem? (i := 4) rfl)
theorem wd_14_5 : Cond.instanceMethod yX11_clear ∈ wsU := inP14 _ (List.mem_of_getElem? (i := 5) rfl)
theorem wd_14_6 : Cond.selects RX11 yX11_clear yX11_clear ∈ wsU := inP14 _ (List.mem_of_getElem? (i := 6) rfl)
theorem wd_14_7 : Cond.code yX11_clear cX11_clear 2 (some .int) ∈ wsU := inP14 _ (List.mem_of_getElem? (i := 7) rfl)
theorem wd_14_8 : Cond.methodLink RX11 132 yX6_empty ∈ wsU := inP14 _ (List.mem_of_getElem? (i := 8) rfl)
theorem wd_14_9 : Cond.instanceMethod yX6_empty ∈ wsU := inP14 _ (List.mem_of_getElem? (i := 9) rfl)
theorem wd_14_10 : Cond.selects RX6 yX6_empty yX6_empty ∈ wsU := inP14 _ (List.mem_of_getElem? (i := 10) rfl)
theorem wd_14_11 : Cond.code yX6_empty cX6_empty 1 none ∈ wsU := inP14 _ (List.mem_of_getElem? (i := 11) rfl)
theorem wd_14_12 : Cond.methodLink RL 40 yX12_clear ∈ wsU := inP14 _ (List.mem_of_getElem? (i := 12) rfl)
theorem wd_14_13 : Cond.instanceMethod yX12_clear ∈ wsU := inP14 _ (List.mem_of_getElem? (i := 13) rfl)
theorem wd_14_14 : Cond.selects RX12 yX12_clear yX12_clear ∈ wsU := inP14 _ (List.mem_of_getElem? (i := 14) rfl)
theorem wd_14_15 : Cond.code yX12_clear cX12_clear 2 (some .int) ∈ wsU := inP14 _ (List.mem_of_getElem? (i := 15) rfl)
theorem wd_14_16 : Cond.methodLink RL 41 yX11_told ∈ wsU := inP14 _ (List.mem_of_getElem? (i := 16) rfl)
theorem wd_14_17 : Cond.instanceMethod yX11_told ∈ wsU := inP14 _ (List.mem_of_getElem? (i := 17) rfl)
theorem wd_14_18 : Cond.selects RX11 yX11_told yX11_told ∈ wsU := inP14 _ (List.mem_of_getElem? (i := 18) rfl)
theorem wd_14_19 : Cond.code yX11_told cX11_told 3 (some .int) ∈ wsU := inP14 _ (List.mem_of_getElem? (i := 19) rfl)
theorem wd_14_20 : Cond.methodLink RX11 135 yX10_kindOf ∈ wsU := inP14 _ (List.mem_of_getElem? (i := 20) rfl)
theorem wd_14_21 : Cond.instanceMethod yX10_kindOf ∈ wsU := inP14 _ (List.mem_of_getElem? (i := 21) rfl)
theorem wd_14_22 : Cond.selects RX10 yX10_kindOf yX10_kindOf ∈ wsU := inP14 _ (List.mem_of_getElem? (i := 22) rfl)
theorem wd_14_23 : Cond.code yX10_kindOf cX10_kindOf 2 (some .int) ∈ wsU := inP14 _ (List.mem_of_getElem? (i := 23) rfl)
theorem wd_15_0 : Cond.methodLink RX11 138 yX10_aheadOf ∈ wsU := inP15 _ (List.mem_of_getElem? (i := 0) rfl)
theorem wd_15_1 : Cond.instanceMethod yX10_aheadOf ∈ wsU := inP15 _ (List.mem_of_getElem? (i := 1) rfl)
theorem wd_15_2 : Cond.selects RX10 yX10_aheadOf yX10_aheadOf ∈ wsU := inP15 _ (List.mem_of_getElem? (i := 2) rfl)
theorem wd_15_3 : Cond.code yX10_aheadOf cX10_aheadOf 2 (some .int) ∈ wsU := inP15 _ (List.mem_of_getElem? (i := 3) rfl)
theorem wd_15_4 : Cond.methodLink RX11 141 yJ6_bitCount_0f7a4 ∈ wsU := inP15 _ (List.mem_of_getElem? (i := 4) rfl)
theorem wd_15_5 : Cond.static yJ6_bitCount_0f7a4 ∈ wsU := inP15 _ (List.mem_of_getElem? (i := 5) rfl)
theorem wd_15_6 : Cond.code yJ6_bitCount_0f7a4 cJ6_bitCount_0f7a4 1 (some .int) ∈ wsU := inP15 _ (List.mem_of_getElem? (i := 6) rfl)
theorem wd_15_7 : Cond.constant RJ6 265 (1431655765) ∈ wsU := inP15 _ (List.mem_of_getElem? (i := 7) rfl)
theorem wd_15_8 : Cond.constant RJ6 266 (858993459) ∈ wsU := inP15 _ (List.mem_of_getElem? (i := 8) rfl)
theorem wd_15_9 : Cond.constant RJ6 267 (252645135) ∈ wsU := inP15 _ (List.mem_of_getElem? (i := 9) rfl)
theorem wd_15_10 : Cond.methodLink RX11 146 yX10_behind ∈ wsU := inP15 _ (List.mem_of_getElem? (i := 10) rfl)
theorem wd_15_11 : Cond.instanceMethod yX10_behind ∈ wsU := inP15 _ (List.mem_of_getElem? (i := 11) rfl)
theorem wd_15_12 : Cond.selects RX10 yX10_behind yX10_behind ∈ wsU := inP15 _ (List.mem_of_getElem? (i := 12) rfl)
theorem wd_15_13 : Cond.code yX10_behind cX10_behind 2 (some .int) ∈ wsU := inP15 _ (List.mem_of_getElem? (i := 13) rfl)
theorem wd_15_14 : Cond.methodLink RX11 149 yX7_blockOf ∈ wsU := inP15 _ (List.mem_of_getElem? (i := 14) rfl)
theorem wd_15_15 : Cond.instanceMethod yX7_blockOf ∈ wsU := inP15 _ (List.mem_of_getElem? (i := 15) rfl)
theorem wd_15_16 : Cond.selects RX7 yX7_blockOf yX7_blockOf ∈ wsU := inP15 _ (List.mem_of_getElem? (i := 16) rfl)
theorem wd_15_17 : Cond.code yX7_blockOf cX7_blockOf 5 (some .int) ∈ wsU := inP15 _ (List.mem_of_getElem? (i := 17) rfl)
theorem wd_15_18 : Cond.methodLink RX7 50 yX7_blocks ∈ wsU := inP15 _ (List.mem_of_getElem? (i := 18) rfl)
theorem wd_15_19 : Cond.instanceMethod yX7_blocks ∈ wsU := inP15 _ (List.mem_of_getElem? (i := 19) rfl)
theorem wd_15_20 : Cond.selects RX7 yX7_blocks yX7_blocks ∈ wsU := inP15 _ (List.mem_of_getElem? (i := 20) rfl)
theorem wd_15_21 : Cond.code yX7_blocks cX7_blocks 2 (some .int) ∈ wsU := inP15 _ (List.mem_of_getElem? (i := 21) rfl)
theorem wd_15_22 : Cond.fieldLink RX7 47 "FellersOrder$Plan" "blocks" "I" ∈ wsU := inP15 _ (List.mem_of_getElem? (i := 22) rfl)
theorem wd_15_23 : Cond.methodLink RX7 37 yX10_version ∈ wsU := inP15 _ (List.mem_of_getElem? (i := 23) rfl)
theorem wd_16_0 : Cond.instanceMethod yX10_version ∈ wsU := inP16 _ (List.mem_of_getElem? (i := 0) rfl)
theorem wd_16_1 : Cond.selects RX10 yX10_version yX10_version ∈ wsU := inP16 _ (List.mem_of_getElem? (i := 1) rfl)
theorem wd_16_2 : Cond.code yX10_version cX10_version 1 (some .int) ∈ wsU := inP16 _ (List.mem_of_getElem? (i := 2) rfl)
theorem wd_16_3 : Cond.methodLink RX7 43 yX7_findBlocks ∈ wsU := inP16 _ (List.mem_of_getElem? (i := 3) rfl)
theorem wd_16_4 : Cond.instanceMethod yX7_findBlocks ∈ wsU := inP16 _ (List.mem_of_getElem? (i := 4) rfl)
theorem wd_16_5 : Cond.selects RX7 yX7_findBlocks yX7_findBlocks ∈ wsU := inP16 _ (List.mem_of_getElem? (i := 5) rfl)
theorem wd_16_6 : Cond.code yX7_findBlocks cX7_findBlocks 4 none ∈ wsU := inP16 _ (List.mem_of_getElem? (i := 6) rfl)
theorem wd_16_7 : Cond.methodLink RX7 63 yX10_everyJob ∈ wsU := inP16 _ (List.mem_of_getElem? (i := 7) rfl)
theorem wd_16_8 : Cond.instanceMethod yX10_everyJob ∈ wsU := inP16 _ (List.mem_of_getElem? (i := 8) rfl)
theorem wd_16_9 : Cond.selects RX10 yX10_everyJob yX10_everyJob ∈ wsU := inP16 _ (List.mem_of_getElem? (i := 9) rfl)
theorem wd_16_10 : Cond.code yX10_everyJob cX10_everyJob 1 (some .int) ∈ wsU := inP16 _ (List.mem_of_getElem? (i := 10) rfl)
theorem wd_16_11 : Cond.methodLink RX7 66 yX7_findBlock ∈ wsU := inP16 _ (List.mem_of_getElem? (i := 11) rfl)
theorem wd_16_12 : Cond.static yX7_findBlock ∈ wsU := inP16 _ (List.mem_of_getElem? (i := 12) rfl)
theorem wd_16_13 : Cond.code yX7_findBlock cX7_findBlock 10 (some .int) ∈ wsU := inP16 _ (List.mem_of_getElem? (i := 13) rfl)
theorem wd_16_14 : Cond.methodLink RX7 70 yX10_lengthOf ∈ wsU := inP16 _ (List.mem_of_getElem? (i := 14) rfl)
theorem wd_16_15 : Cond.instanceMethod yX10_lengthOf ∈ wsU := inP16 _ (List.mem_of_getElem? (i := 15) rfl)
theorem wd_16_16 : Cond.selects RX10 yX10_lengthOf yX10_lengthOf ∈ wsU := inP16 _ (List.mem_of_getElem? (i := 16) rfl)
theorem wd_16_17 : Cond.code yX10_lengthOf cX10_lengthOf 2 (some .int) ∈ wsU := inP16 _ (List.mem_of_getElem? (i := 17) rfl)
theorem wd_16_18 : Cond.methodLink RX7 74 yX10_weightOf ∈ wsU := inP16 _ (List.mem_of_getElem? (i := 18) rfl)
theorem wd_16_19 : Cond.instanceMethod yX10_weightOf ∈ wsU := inP16 _ (List.mem_of_getElem? (i := 19) rfl)
theorem wd_16_20 : Cond.selects RX10 yX10_weightOf yX10_weightOf ∈ wsU := inP16 _ (List.mem_of_getElem? (i := 20) rfl)
theorem wd_16_21 : Cond.code yX10_weightOf cX10_weightOf 2 (some .int) ∈ wsU := inP16 _ (List.mem_of_getElem? (i := 21) rfl)
theorem wd_16_22 : Cond.methodLink RX7 77 yX10_isBeginning ∈ wsU := inP16 _ (List.mem_of_getElem? (i := 22) rfl)
theorem wd_16_23 : Cond.instanceMethod yX10_isBeginning ∈ wsU := inP16 _ (List.mem_of_getElem? (i := 23) rfl)
theorem wd_17_0 : Cond.selects RX10 yX10_isBeginning yX10_isBeginning ∈ wsU := inP17 _ (List.mem_of_getElem? (i := 0) rfl)
theorem wd_17_1 : Cond.code yX10_isBeginning cX10_isBeginning 4 (some .boolean) ∈ wsU := inP17 _ (List.mem_of_getElem? (i := 1) rfl)
theorem wd_17_2 : Cond.methodLink RL 44 yX12_told ∈ wsU := inP17 _ (List.mem_of_getElem? (i := 2) rfl)
theorem wd_17_3 : Cond.instanceMethod yX12_told ∈ wsU := inP17 _ (List.mem_of_getElem? (i := 3) rfl)
theorem wd_17_4 : Cond.selects RX12 yX12_told yX12_told ∈ wsU := inP17 _ (List.mem_of_getElem? (i := 4) rfl)
theorem wd_17_5 : Cond.code yX12_told cX12_told 3 (some .int) ∈ wsU := inP17 _ (List.mem_of_getElem? (i := 5) rfl)
theorem wd_17_6 : Cond.methodLink RX12 170 yX12_kindOf ∈ wsU := inP17 _ (List.mem_of_getElem? (i := 6) rfl)
theorem wd_17_7 : Cond.instanceMethod yX12_kindOf ∈ wsU := inP17 _ (List.mem_of_getElem? (i := 7) rfl)
theorem wd_17_8 : Cond.selects RX12 yX12_kindOf yX12_kindOf ∈ wsU := inP17 _ (List.mem_of_getElem? (i := 8) rfl)
theorem wd_17_9 : Cond.code yX12_kindOf cX12_kindOf 2 (some .int) ∈ wsU := inP17 _ (List.mem_of_getElem? (i := 9) rfl)
theorem wd_17_10 : Cond.methodLink RX12 173 yX12_bits ∈ wsU := inP17 _ (List.mem_of_getElem? (i := 10) rfl)
theorem wd_17_11 : Cond.static yX12_bits ∈ wsU := inP17 _ (List.mem_of_getElem? (i := 11) rfl)
theorem wd_17_12 : Cond.code yX12_bits cX12_bits 3 (some .int) ∈ wsU := inP17 _ (List.mem_of_getElem? (i := 12) rfl)
theorem wd_17_13 : Cond.methodLink RX12 176 yX12_behindOf ∈ wsU := inP17 _ (List.mem_of_getElem? (i := 13) rfl)
theorem wd_17_14 : Cond.instanceMethod yX12_behindOf ∈ wsU := inP17 _ (List.mem_of_getElem? (i := 14) rfl)
theorem wd_17_15 : Cond.selects RX12 yX12_behindOf yX12_behindOf ∈ wsU := inP17 _ (List.mem_of_getElem? (i := 15) rfl)
theorem wd_17_16 : Cond.code yX12_behindOf cX12_behindOf 4 (some .int) ∈ wsU := inP17 _ (List.mem_of_getElem? (i := 16) rfl)
theorem wd_17_17 : Cond.methodLink RX12 179 yX12_blockWith ∈ wsU := inP17 _ (List.mem_of_getElem? (i := 17) rfl)
theorem wd_17_18 : Cond.instanceMethod yX12_blockWith ∈ wsU := inP17 _ (List.mem_of_getElem? (i := 18) rfl)
theorem wd_17_19 : Cond.selects RX12 yX12_blockWith yX12_blockWith ∈ wsU := inP17 _ (List.mem_of_getElem? (i := 19) rfl)
theorem wd_17_20 : Cond.code yX12_blockWith cX12_blockWith 3 (some .int) ∈ wsU := inP17 _ (List.mem_of_getElem? (i := 20) rfl)
theorem wd_17_21 : Cond.methodLink RX12 167 yX12_findBlocks ∈ wsU := inP17 _ (List.mem_of_getElem? (i := 21) rfl)
theorem wd_17_22 : Cond.instanceMethod yX12_findBlocks ∈ wsU := inP17 _ (List.mem_of_getElem? (i := 22) rfl)
theorem wd_17_23 : Cond.selects RX12 yX12_findBlocks yX12_findBlocks ∈ wsU := inP17 _ (List.mem_of_getElem? (i := 23) rfl)
theorem wd_18_0 : Cond.code yX12_findBlocks cX12_findBlocks 2 none ∈ wsU := inP18 _ (List.mem_of_getElem? (i := 0) rfl)
theorem wd_18_1 : Cond.fieldLink RX12 161 "FellersOrderModel" "blocks" "I" ∈ wsU := inP18 _ (List.mem_of_getElem? (i := 1) rfl)
theorem wd_18_2 : Cond.methodLink RX12 134 yX12_all ∈ wsU := inP18 _ (List.mem_of_getElem? (i := 2) rfl)
theorem wd_18_3 : Cond.instanceMethod yX12_all ∈ wsU := inP18 _ (List.mem_of_getElem? (i := 3) rfl)
theorem wd_18_4 : Cond.selects RX12 yX12_all yX12_all ∈ wsU := inP18 _ (List.mem_of_getElem? (i := 4) rfl)
theorem wd_18_5 : Cond.code yX12_all cX12_all 1 (some .int) ∈ wsU := inP18 _ (List.mem_of_getElem? (i := 5) rfl)
theorem wd_18_6 : Cond.methodLink RX12 164 yX12_blockBehind ∈ wsU := inP18 _ (List.mem_of_getElem? (i := 6) rfl)
theorem wd_18_7 : Cond.instanceMethod yX12_blockBehind ∈ wsU := inP18 _ (List.mem_of_getElem? (i := 7) rfl)
theorem wd_18_8 : Cond.selects RX12 yX12_blockBehind yX12_blockBehind ∈ wsU := inP18 _ (List.mem_of_getElem? (i := 8) rfl)
theorem wd_18_9 : Cond.code yX12_blockBehind cX12_blockBehind 5 (some .int) ∈ wsU := inP18 _ (List.mem_of_getElem? (i := 9) rfl)
theorem wd_18_10 : Cond.methodLink RX12 152 yX12_isBeginning ∈ wsU := inP18 _ (List.mem_of_getElem? (i := 10) rfl)
theorem wd_18_11 : Cond.instanceMethod yX12_isBeginning ∈ wsU := inP18 _ (List.mem_of_getElem? (i := 11) rfl)
theorem wd_18_12 : Cond.selects RX12 yX12_isBeginning yX12_isBeginning ∈ wsU := inP18 _ (List.mem_of_getElem? (i := 12) rfl)
theorem wd_18_13 : Cond.code yX12_isBeginning cX12_isBeginning 5 (some .boolean) ∈ wsU := inP18 _ (List.mem_of_getElem? (i := 13) rfl)
theorem wd_18_14 : Cond.methodLink RX12 155 yX12_weightOf ∈ wsU := inP18 _ (List.mem_of_getElem? (i := 14) rfl)
theorem wd_18_15 : Cond.instanceMethod yX12_weightOf ∈ wsU := inP18 _ (List.mem_of_getElem? (i := 15) rfl)
theorem wd_18_16 : Cond.selects RX12 yX12_weightOf yX12_weightOf ∈ wsU := inP18 _ (List.mem_of_getElem? (i := 16) rfl)
theorem wd_18_17 : Cond.code yX12_weightOf cX12_weightOf 4 (some .int) ∈ wsU := inP18 _ (List.mem_of_getElem? (i := 17) rfl)
theorem wd_18_18 : Cond.methodLink RX12 158 yX12_lengthOf ∈ wsU := inP18 _ (List.mem_of_getElem? (i := 18) rfl)
theorem wd_18_19 : Cond.instanceMethod yX12_lengthOf ∈ wsU := inP18 _ (List.mem_of_getElem? (i := 19) rfl)
theorem wd_18_20 : Cond.selects RX12 yX12_lengthOf yX12_lengthOf ∈ wsU := inP18 _ (List.mem_of_getElem? (i := 20) rfl)
theorem wd_18_21 : Cond.code yX12_lengthOf cX12_lengthOf 4 (some .int) ∈ wsU := inP18 _ (List.mem_of_getElem? (i := 21) rfl)
theorem wd_18_22 : Cond.methodLink RL 45 yX11_ahead ∈ wsU := inP18 _ (List.mem_of_getElem? (i := 22) rfl)
theorem wd_18_23 : Cond.instanceMethod yX11_ahead ∈ wsU := inP18 _ (List.mem_of_getElem? (i := 23) rfl)
theorem wd_19_0 : Cond.selects RX11 yX11_ahead yX11_ahead ∈ wsU := inP19 _ (List.mem_of_getElem? (i := 0) rfl)
theorem wd_19_1 : Cond.code yX11_ahead cX11_ahead 3 (some .int) ∈ wsU := inP19 _ (List.mem_of_getElem? (i := 1) rfl)
theorem wd_19_2 : Cond.methodLink RX11 153 yX11_asNumber ∈ wsU := inP19 _ (List.mem_of_getElem? (i := 2) rfl)
theorem wd_19_3 : Cond.static yX11_asNumber ∈ wsU := inP19 _ (List.mem_of_getElem? (i := 3) rfl)
theorem wd_19_4 : Cond.code yX11_asNumber cX11_asNumber 1 (some .int) ∈ wsU := inP19 _ (List.mem_of_getElem? (i := 4) rfl)
theorem wd_19_5 : Cond.methodLink RL 48 yX12_ahead ∈ wsU := inP19 _ (List.mem_of_getElem? (i := 5) rfl)
theorem wd_19_6 : Cond.instanceMethod yX12_ahead ∈ wsU := inP19 _ (List.mem_of_getElem? (i := 6) rfl)
theorem wd_19_7 : Cond.selects RX12 yX12_ahead yX12_ahead ∈ wsU := inP19 _ (List.mem_of_getElem? (i := 7) rfl)
theorem wd_19_8 : Cond.code yX12_ahead cX12_ahead 3 (some .int) ∈ wsU := inP19 _ (List.mem_of_getElem? (i := 8) rfl)
theorem wd_19_9 : Cond.methodLink RL 49 yX11_count ∈ wsU := inP19 _ (List.mem_of_getElem? (i := 9) rfl)
theorem wd_19_10 : Cond.instanceMethod yX11_count ∈ wsU := inP19 _ (List.mem_of_getElem? (i := 10) rfl)
theorem wd_19_11 : Cond.selects RX11 yX11_count yX11_count ∈ wsU := inP19 _ (List.mem_of_getElem? (i := 11) rfl)
theorem wd_19_12 : Cond.code yX11_count cX11_count 2 (some .int) ∈ wsU := inP19 _ (List.mem_of_getElem? (i := 12) rfl)
theorem wd_19_13 : Cond.methodLink RX11 157 yX10_jobs ∈ wsU := inP19 _ (List.mem_of_getElem? (i := 13) rfl)
theorem wd_19_14 : Cond.instanceMethod yX10_jobs ∈ wsU := inP19 _ (List.mem_of_getElem? (i := 14) rfl)
theorem wd_19_15 : Cond.selects RX10 yX10_jobs yX10_jobs ∈ wsU := inP19 _ (List.mem_of_getElem? (i := 15) rfl)
theorem wd_19_16 : Cond.code yX10_jobs cX10_jobs 1 (some .int) ∈ wsU := inP19 _ (List.mem_of_getElem? (i := 16) rfl)
theorem wd_19_17 : Cond.methodLink RX11 160 yX10_laidPairs ∈ wsU := inP19 _ (List.mem_of_getElem? (i := 17) rfl)
theorem wd_19_18 : Cond.instanceMethod yX10_laidPairs ∈ wsU := inP19 _ (List.mem_of_getElem? (i := 18) rfl)
theorem wd_19_19 : Cond.selects RX10 yX10_laidPairs yX10_laidPairs ∈ wsU := inP19 _ (List.mem_of_getElem? (i := 19) rfl)
theorem wd_19_20 : Cond.code yX10_laidPairs cX10_laidPairs 1 (some .int) ∈ wsU := inP19 _ (List.mem_of_getElem? (i := 20) rfl)
theorem wd_19_21 : Cond.methodLink RX11 163 yX7_blocks ∈ wsU := inP19 _ (List.mem_of_getElem? (i := 21) rfl)
theorem wd_19_22 : Cond.methodLink RX11 167 yX10_beginnings ∈ wsU := inP19 _ (List.mem_of_getElem? (i := 22) rfl)
theorem wd_19_23 : Cond.instanceMethod yX10_beginnings ∈ wsU := inP19 _ (List.mem_of_getElem? (i := 23) rfl)
theorem wd_20_0 : Cond.selects RX10 yX10_beginnings yX10_beginnings ∈ wsU := inP20 _ (List.mem_of_getElem? (i := 0) rfl)
theorem wd_20_1 : Cond.code yX10_beginnings cX10_beginnings 4 (some .int) ∈ wsU := inP20 _ (List.mem_of_getElem? (i := 1) rfl)
theorem wd_20_2 : Cond.methodLink RX10 58 yX10_everyJob ∈ wsU := inP20 _ (List.mem_of_getElem? (i := 2) rfl)
theorem wd_20_3 : Cond.methodLink RX10 62 yX10_isBeginning ∈ wsU := inP20 _ (List.mem_of_getElem? (i := 3) rfl)
theorem wd_20_4 : Cond.methodLink RX11 170 yX0_begun ∈ wsU := inP20 _ (List.mem_of_getElem? (i := 4) rfl)
theorem wd_20_5 : Cond.instanceMethod yX0_begun ∈ wsU := inP20 _ (List.mem_of_getElem? (i := 5) rfl)
theorem wd_20_6 : Cond.selects RX0 yX0_begun yX0_begun ∈ wsU := inP20 _ (List.mem_of_getElem? (i := 6) rfl)
theorem wd_20_7 : Cond.code yX0_begun cX0_begun 1 (some .int) ∈ wsU := inP20 _ (List.mem_of_getElem? (i := 7) rfl)
theorem wd_20_8 : Cond.fieldLink RX0 15 "FellersOrder$Acting" "begun" "I" ∈ wsU := inP20 _ (List.mem_of_getElem? (i := 8) rfl)
theorem wd_20_9 : Cond.methodLink RX11 173 yX2_size ∈ wsU := inP20 _ (List.mem_of_getElem? (i := 9) rfl)
theorem wd_20_10 : Cond.instanceMethod yX2_size ∈ wsU := inP20 _ (List.mem_of_getElem? (i := 10) rfl)
theorem wd_20_11 : Cond.selects RX2 yX2_size yX2_size ∈ wsU := inP20 _ (List.mem_of_getElem? (i := 11) rfl)
theorem wd_20_12 : Cond.code yX2_size cX2_size 1 (some .int) ∈ wsU := inP20 _ (List.mem_of_getElem? (i := 12) rfl)
theorem wd_20_13 : Cond.methodLink RL 52 yX12_count ∈ wsU := inP20 _ (List.mem_of_getElem? (i := 13) rfl)
theorem wd_20_14 : Cond.instanceMethod yX12_count ∈ wsU := inP20 _ (List.mem_of_getElem? (i := 14) rfl)
theorem wd_20_15 : Cond.selects RX12 yX12_count yX12_count ∈ wsU := inP20 _ (List.mem_of_getElem? (i := 15) rfl)
theorem wd_20_16 : Cond.code yX12_count cX12_count 2 (some .int) ∈ wsU := inP20 _ (List.mem_of_getElem? (i := 16) rfl)
theorem wd_20_17 : Cond.fieldLink RX12 188 "FellersOrderModel" "traces" "I" ∈ wsU := inP20 _ (List.mem_of_getElem? (i := 17) rfl)
theorem wd_20_18 : Cond.methodLink RX12 182 yX12_pairs ∈ wsU := inP20 _ (List.mem_of_getElem? (i := 18) rfl)
theorem wd_20_19 : Cond.instanceMethod yX12_pairs ∈ wsU := inP20 _ (List.mem_of_getElem? (i := 19) rfl)
theorem wd_20_20 : Cond.selects RX12 yX12_pairs yX12_pairs ∈ wsU := inP20 _ (List.mem_of_getElem? (i := 20) rfl)
theorem wd_20_21 : Cond.code yX12_pairs cX12_pairs 3 (some .int) ∈ wsU := inP20 _ (List.mem_of_getElem? (i := 21) rfl)
theorem wd_20_22 : Cond.methodLink RX12 185 yX12_beginnings ∈ wsU := inP20 _ (List.mem_of_getElem? (i := 22) rfl)
theorem wd_20_23 : Cond.instanceMethod yX12_beginnings ∈ wsU := inP20 _ (List.mem_of_getElem? (i := 23) rfl)
theorem wd_21_0 : Cond.selects RX12 yX12_beginnings yX12_beginnings ∈ wsU := inP21 _ (List.mem_of_getElem? (i := 0) rfl)
theorem wd_21_1 : Cond.code yX12_beginnings cX12_beginnings 3 (some .int) ∈ wsU := inP21 _ (List.mem_of_getElem? (i := 1) rfl)
theorem wd_21_2 : Cond.methodLink RL 53 yX11_keeps ∈ wsU := inP21 _ (List.mem_of_getElem? (i := 2) rfl)
theorem wd_21_3 : Cond.instanceMethod yX11_keeps ∈ wsU := inP21 _ (List.mem_of_getElem? (i := 3) rfl)
theorem wd_21_4 : Cond.selects RX11 yX11_keeps yX11_keeps ∈ wsU := inP21 _ (List.mem_of_getElem? (i := 4) rfl)
theorem wd_21_5 : Cond.code yX11_keeps cX11_keeps 1 (some .int) ∈ wsU := inP21 _ (List.mem_of_getElem? (i := 5) rfl)
theorem wd_21_6 : Cond.methodLink RX11 174 yX6_isKept ∈ wsU := inP21 _ (List.mem_of_getElem? (i := 6) rfl)
theorem wd_21_7 : Cond.instanceMethod yX6_isKept ∈ wsU := inP21 _ (List.mem_of_getElem? (i := 7) rfl)
theorem wd_21_8 : Cond.selects RX6 yX6_isKept yX6_isKept ∈ wsU := inP21 _ (List.mem_of_getElem? (i := 8) rfl)
theorem wd_21_9 : Cond.code yX6_isKept cX6_isKept 2 (some .boolean) ∈ wsU := inP21 _ (List.mem_of_getElem? (i := 9) rfl)
theorem wd_21_10 : Cond.methodLink RX6 32 yX10_jobs ∈ wsU := inP21 _ (List.mem_of_getElem? (i := 10) rfl)
theorem wd_21_11 : Cond.methodLink RX6 36 yX6_firstLacking ∈ wsU := inP21 _ (List.mem_of_getElem? (i := 11) rfl)
theorem wd_21_12 : Cond.instanceMethod yX6_firstLacking ∈ wsU := inP21 _ (List.mem_of_getElem? (i := 12) rfl)
theorem wd_21_13 : Cond.selects RX6 yX6_firstLacking yX6_firstLacking ∈ wsU := inP21 _ (List.mem_of_getElem? (i := 13) rfl)
theorem wd_21_14 : Cond.code yX6_firstLacking cX6_firstLacking 3 (some .int) ∈ wsU := inP21 _ (List.mem_of_getElem? (i := 14) rfl)
theorem wd_21_15 : Cond.methodLink RX6 28 yX6_lackingAt ∈ wsU := inP21 _ (List.mem_of_getElem? (i := 15) rfl)
theorem wd_21_16 : Cond.instanceMethod yX6_lackingAt ∈ wsU := inP21 _ (List.mem_of_getElem? (i := 16) rfl)
theorem wd_21_17 : Cond.selects RX6 yX6_lackingAt yX6_lackingAt ∈ wsU := inP21 _ (List.mem_of_getElem? (i := 17) rfl)
theorem wd_21_18 : Cond.code yX6_lackingAt cX6_lackingAt 3 (some .int) ∈ wsU := inP21 _ (List.mem_of_getElem? (i := 18) rfl)
theorem wd_21_19 : Cond.methodLink RX6 19 yX10_aheadOf ∈ wsU := inP21 _ (List.mem_of_getElem? (i := 19) rfl)
theorem wd_21_20 : Cond.methodLink RX6 25 yX6_bitsBefore ∈ wsU := inP21 _ (List.mem_of_getElem? (i := 20) rfl)
theorem wd_21_21 : Cond.instanceMethod yX6_bitsBefore ∈ wsU := inP21 _ (List.mem_of_getElem? (i := 21) rfl)
theorem wd_21_22 : Cond.selects RX6 yX6_bitsBefore yX6_bitsBefore ∈ wsU := inP21 _ (List.mem_of_getElem? (i := 22) rfl)
theorem wd_21_23 : Cond.code yX6_bitsBefore cX6_bitsBefore 4 (some .int) ∈ wsU := inP21 _ (List.mem_of_getElem? (i := 23) rfl)
theorem wd_22_0 : Cond.methodLink RL 56 yX12_keeps ∈ wsU := inP22 _ (List.mem_of_getElem? (i := 0) rfl)
theorem wd_22_1 : Cond.instanceMethod yX12_keeps ∈ wsU := inP22 _ (List.mem_of_getElem? (i := 1) rfl)
theorem wd_22_2 : Cond.selects RX12 yX12_keeps yX12_keeps ∈ wsU := inP22 _ (List.mem_of_getElem? (i := 2) rfl)
theorem wd_22_3 : Cond.code yX12_keeps cX12_keeps 1 (some .int) ∈ wsU := inP22 _ (List.mem_of_getElem? (i := 3) rfl)
theorem wd_22_4 : Cond.fieldLink RX12 116 "FellersOrderModel" "lacks" "I" ∈ wsU := inP22 _ (List.mem_of_getElem? (i := 4) rfl)
theorem wd_22_5 : Cond.methodLink RX12 119 yX12_lacking ∈ wsU := inP22 _ (List.mem_of_getElem? (i := 5) rfl)
theorem wd_22_6 : Cond.instanceMethod yX12_lacking ∈ wsU := inP22 _ (List.mem_of_getElem? (i := 6) rfl)
theorem wd_22_7 : Cond.selects RX12 yX12_lacking yX12_lacking ∈ wsU := inP22 _ (List.mem_of_getElem? (i := 7) rfl)
theorem wd_22_8 : Cond.code yX12_lacking cX12_lacking 4 (some .int) ∈ wsU := inP22 _ (List.mem_of_getElem? (i := 8) rfl)
theorem wd_22_9 : Cond.methodLink RL 57 yX11_why ∈ wsU := inP22 _ (List.mem_of_getElem? (i := 9) rfl)
theorem wd_22_10 : Cond.instanceMethod yX11_why ∈ wsU := inP22 _ (List.mem_of_getElem? (i := 10) rfl)
theorem wd_22_11 : Cond.selects RX11 yX11_why yX11_why ∈ wsU := inP22 _ (List.mem_of_getElem? (i := 11) rfl)
theorem wd_22_12 : Cond.code yX11_why cX11_why 4 (some .int) ∈ wsU := inP22 _ (List.mem_of_getElem? (i := 12) rfl)
theorem wd_22_13 : Cond.methodLink RX11 178 yX6_firstLacking ∈ wsU := inP22 _ (List.mem_of_getElem? (i := 13) rfl)
theorem wd_22_14 : Cond.methodLink RX11 181 yX6_jobAt ∈ wsU := inP22 _ (List.mem_of_getElem? (i := 14) rfl)
theorem wd_22_15 : Cond.instanceMethod yX6_jobAt ∈ wsU := inP22 _ (List.mem_of_getElem? (i := 15) rfl)
theorem wd_22_16 : Cond.selects RX6 yX6_jobAt yX6_jobAt ∈ wsU := inP22 _ (List.mem_of_getElem? (i := 16) rfl)
theorem wd_22_17 : Cond.code yX6_jobAt cX6_jobAt 2 (some .int) ∈ wsU := inP22 _ (List.mem_of_getElem? (i := 17) rfl)
theorem wd_22_18 : Cond.methodLink RX11 184 yX10_everyJob ∈ wsU := inP22 _ (List.mem_of_getElem? (i := 18) rfl)
theorem wd_22_19 : Cond.methodLink RX11 187 yX6_bitsBefore ∈ wsU := inP22 _ (List.mem_of_getElem? (i := 19) rfl)
theorem wd_22_20 : Cond.methodLink RX11 190 yX6_lackingAt ∈ wsU := inP22 _ (List.mem_of_getElem? (i := 20) rfl)
theorem wd_22_21 : Cond.methodLink RX11 193 yJ6_numberOfTrailingZeros_0f7a4 ∈ wsU := inP22 _ (List.mem_of_getElem? (i := 21) rfl)
theorem wd_22_22 : Cond.methodLink RL 60 yX12_why ∈ wsU := inP22 _ (List.mem_of_getElem? (i := 22) rfl)
theorem wd_22_23 : Cond.instanceMethod yX12_why ∈ wsU := inP22 _ (List.mem_of_getElem? (i := 23) rfl)
theorem wd_23_0 : Cond.selects RX12 yX12_why yX12_why ∈ wsU := inP23 _ (List.mem_of_getElem? (i := 0) rfl)
theorem wd_23_1 : Cond.code yX12_why cX12_why 3 (some .int) ∈ wsU := inP23 _ (List.mem_of_getElem? (i := 1) rfl)
theorem wd_23_2 : Cond.methodLink RX12 123 yX12_lowest ∈ wsU := inP23 _ (List.mem_of_getElem? (i := 2) rfl)
theorem wd_23_3 : Cond.static yX12_lowest ∈ wsU := inP23 _ (List.mem_of_getElem? (i := 3) rfl)
theorem wd_23_4 : Cond.code yX12_lowest cX12_lowest 2 (some .int) ∈ wsU := inP23 _ (List.mem_of_getElem? (i := 4) rfl)
theorem wd_23_5 : Cond.methodLink RL 61 yX11_cost ∈ wsU := inP23 _ (List.mem_of_getElem? (i := 5) rfl)
theorem wd_23_6 : Cond.instanceMethod yX11_cost ∈ wsU := inP23 _ (List.mem_of_getElem? (i := 6) rfl)
theorem wd_23_7 : Cond.selects RX11 yX11_cost yX11_cost ∈ wsU := inP23 _ (List.mem_of_getElem? (i := 7) rfl)
theorem wd_23_8 : Cond.code yX11_cost cX11_cost 1 (some .int) ∈ wsU := inP23 _ (List.mem_of_getElem? (i := 8) rfl)
theorem wd_23_9 : Cond.methodLink RX11 196 yX6_weightedWaiting ∈ wsU := inP23 _ (List.mem_of_getElem? (i := 9) rfl)
theorem wd_23_10 : Cond.instanceMethod yX6_weightedWaiting ∈ wsU := inP23 _ (List.mem_of_getElem? (i := 10) rfl)
theorem wd_23_11 : Cond.selects RX6 yX6_weightedWaiting yX6_weightedWaiting ∈ wsU := inP23 _ (List.mem_of_getElem? (i := 11) rfl)
theorem wd_23_12 : Cond.code yX6_weightedWaiting cX6_weightedWaiting 6 (some .int) ∈ wsU := inP23 _ (List.mem_of_getElem? (i := 12) rfl)
theorem wd_23_13 : Cond.methodLink RX6 44 Lib.Math.max.name ∈ wsU := inP23 _ (List.mem_of_getElem? (i := 13) rfl)
theorem wd_23_14 : Cond.methodLink RX6 40 yX10_measure ∈ wsU := inP23 _ (List.mem_of_getElem? (i := 14) rfl)
theorem wd_23_15 : Cond.methodLink RL 64 yX12_cost ∈ wsU := inP23 _ (List.mem_of_getElem? (i := 15) rfl)
theorem wd_23_16 : Cond.instanceMethod yX12_cost ∈ wsU := inP23 _ (List.mem_of_getElem? (i := 16) rfl)
theorem wd_23_17 : Cond.selects RX12 yX12_cost yX12_cost ∈ wsU := inP23 _ (List.mem_of_getElem? (i := 17) rfl)
theorem wd_23_18 : Cond.code yX12_cost cX12_cost 5 (some .int) ∈ wsU := inP23 _ (List.mem_of_getElem? (i := 18) rfl)
theorem wd_23_19 : Cond.methodLink RL 65 yX11_swap ∈ wsU := inP23 _ (List.mem_of_getElem? (i := 19) rfl)
theorem wd_23_20 : Cond.instanceMethod yX11_swap ∈ wsU := inP23 _ (List.mem_of_getElem? (i := 20) rfl)
theorem wd_23_21 : Cond.selects RX11 yX11_swap yX11_swap ∈ wsU := inP23 _ (List.mem_of_getElem? (i := 21) rfl)
theorem wd_23_22 : Cond.code yX11_swap cX11_swap 4 (some .int) ∈ wsU := inP23 _ (List.mem_of_getElem? (i := 22) rfl)
theorem wd_23_23 : Cond.constant RX11 199 (-1000000000) ∈ wsU := inP23 _ (List.mem_of_getElem? (i := 23) rfl)
theorem wd_24_0 : Cond.methodLink RX11 200 yX6_exchange ∈ wsU := inP24 _ (List.mem_of_getElem? (i := 0) rfl)
theorem wd_24_1 : Cond.instanceMethod yX6_exchange ∈ wsU := inP24 _ (List.mem_of_getElem? (i := 1) rfl)
theorem wd_24_2 : Cond.selects RX6 yX6_exchange yX6_exchange ∈ wsU := inP24 _ (List.mem_of_getElem? (i := 2) rfl)
theorem wd_24_3 : Cond.code yX6_exchange cX6_exchange 3 none ∈ wsU := inP24 _ (List.mem_of_getElem? (i := 3) rfl)
theorem wd_24_4 : Cond.methodLink RL 68 yX12_swap ∈ wsU := inP24 _ (List.mem_of_getElem? (i := 4) rfl)
theorem wd_24_5 : Cond.instanceMethod yX12_swap ∈ wsU := inP24 _ (List.mem_of_getElem? (i := 5) rfl)
theorem wd_24_6 : Cond.selects RX12 yX12_swap yX12_swap ∈ wsU := inP24 _ (List.mem_of_getElem? (i := 6) rfl)
theorem wd_24_7 : Cond.code yX12_swap cX12_swap 4 (some .int) ∈ wsU := inP24 _ (List.mem_of_getElem? (i := 7) rfl)
theorem wd_24_8 : Cond.constant RX12 126 (-1000000000) ∈ wsU := inP24 _ (List.mem_of_getElem? (i := 8) rfl)
theorem wd_24_9 : Cond.methodLink RX12 127 yX12_cost ∈ wsU := inP24 _ (List.mem_of_getElem? (i := 9) rfl)
theorem wd_24_10 : Cond.methodLink RX12 130 yX12_change ∈ wsU := inP24 _ (List.mem_of_getElem? (i := 10) rfl)
theorem wd_24_11 : Cond.instanceMethod yX12_change ∈ wsU := inP24 _ (List.mem_of_getElem? (i := 11) rfl)
theorem wd_24_12 : Cond.selects RX12 yX12_change yX12_change ∈ wsU := inP24 _ (List.mem_of_getElem? (i := 12) rfl)
theorem wd_24_13 : Cond.code yX12_change cX12_change 3 none ∈ wsU := inP24 _ (List.mem_of_getElem? (i := 13) rfl)
theorem wd_24_14 : Cond.methodLink RL 69 yX11_block ∈ wsU := inP24 _ (List.mem_of_getElem? (i := 14) rfl)
theorem wd_24_15 : Cond.instanceMethod yX11_block ∈ wsU := inP24 _ (List.mem_of_getElem? (i := 15) rfl)
theorem wd_24_16 : Cond.selects RX11 yX11_block yX11_block ∈ wsU := inP24 _ (List.mem_of_getElem? (i := 16) rfl)
theorem wd_24_17 : Cond.code yX11_block cX11_block 4 (some .int) ∈ wsU := inP24 _ (List.mem_of_getElem? (i := 17) rfl)
theorem wd_24_18 : Cond.methodLink RX11 203 yX7_blockBits ∈ wsU := inP24 _ (List.mem_of_getElem? (i := 18) rfl)
theorem wd_24_19 : Cond.instanceMethod yX7_blockBits ∈ wsU := inP24 _ (List.mem_of_getElem? (i := 19) rfl)
theorem wd_24_20 : Cond.selects RX7 yX7_blockBits yX7_blockBits ∈ wsU := inP24 _ (List.mem_of_getElem? (i := 20) rfl)
theorem wd_24_21 : Cond.code yX7_blockBits cX7_blockBits 2 (some .int) ∈ wsU := inP24 _ (List.mem_of_getElem? (i := 21) rfl)
theorem wd_24_22 : Cond.methodLink RX11 206 yX10_weightOf ∈ wsU := inP24 _ (List.mem_of_getElem? (i := 22) rfl)
theorem wd_24_23 : Cond.methodLink RX11 209 yX10_lengthOf ∈ wsU := inP24 _ (List.mem_of_getElem? (i := 23) rfl)
theorem wd_25_0 : Cond.methodLink RL 72 yX12_block ∈ wsU := inP25 _ (List.mem_of_getElem? (i := 0) rfl)
theorem wd_25_1 : Cond.instanceMethod yX12_block ∈ wsU := inP25 _ (List.mem_of_getElem? (i := 1) rfl)
theorem wd_25_2 : Cond.selects RX12 yX12_block yX12_block ∈ wsU := inP25 _ (List.mem_of_getElem? (i := 2) rfl)
theorem wd_25_3 : Cond.code yX12_block cX12_block 3 (some .int) ∈ wsU := inP25 _ (List.mem_of_getElem? (i := 3) rfl)
theorem wd_25_4 : Cond.methodLink RL 73 yX11_least ∈ wsU := inP25 _ (List.mem_of_getElem? (i := 4) rfl)
theorem wd_25_5 : Cond.instanceMethod yX11_least ∈ wsU := inP25 _ (List.mem_of_getElem? (i := 5) rfl)
theorem wd_25_6 : Cond.selects RX11 yX11_least yX11_least ∈ wsU := inP25 _ (List.mem_of_getElem? (i := 6) rfl)
theorem wd_25_7 : Cond.code yX11_least cX11_least 1 (some .int) ∈ wsU := inP25 _ (List.mem_of_getElem? (i := 7) rfl)
theorem wd_25_8 : Cond.methodLink RX11 212 yX7_leastCost ∈ wsU := inP25 _ (List.mem_of_getElem? (i := 8) rfl)
theorem wd_25_9 : Cond.instanceMethod yX7_leastCost ∈ wsU := inP25 _ (List.mem_of_getElem? (i := 9) rfl)
theorem wd_25_10 : Cond.selects RX7 yX7_leastCost yX7_leastCost ∈ wsU := inP25 _ (List.mem_of_getElem? (i := 10) rfl)
theorem wd_25_11 : Cond.code yX7_leastCost cX7_leastCost 2 (some .int) ∈ wsU := inP25 _ (List.mem_of_getElem? (i := 11) rfl)
theorem wd_25_12 : Cond.methodLink RX7 57 yX7_findOrders ∈ wsU := inP25 _ (List.mem_of_getElem? (i := 12) rfl)
theorem wd_25_13 : Cond.instanceMethod yX7_findOrders ∈ wsU := inP25 _ (List.mem_of_getElem? (i := 13) rfl)
theorem wd_25_14 : Cond.selects RX7 yX7_findOrders yX7_findOrders ∈ wsU := inP25 _ (List.mem_of_getElem? (i := 14) rfl)
theorem wd_25_15 : Cond.code yX7_findOrders cX7_findOrders 4 none ∈ wsU := inP25 _ (List.mem_of_getElem? (i := 15) rfl)
theorem wd_25_16 : Cond.constant RX7 84 (1000000000) ∈ wsU := inP25 _ (List.mem_of_getElem? (i := 16) rfl)
theorem wd_25_17 : Cond.methodLink RX7 80 yX7_goOnFrom ∈ wsU := inP25 _ (List.mem_of_getElem? (i := 17) rfl)
theorem wd_25_18 : Cond.instanceMethod yX7_goOnFrom ∈ wsU := inP25 _ (List.mem_of_getElem? (i := 18) rfl)
theorem wd_25_19 : Cond.selects RX7 yX7_goOnFrom yX7_goOnFrom ∈ wsU := inP25 _ (List.mem_of_getElem? (i := 19) rfl)
theorem wd_25_20 : Cond.code yX7_goOnFrom cX7_goOnFrom 10 none ∈ wsU := inP25 _ (List.mem_of_getElem? (i := 20) rfl)
theorem wd_25_21 : Cond.methodLink RX7 88 yX10_jobs ∈ wsU := inP25 _ (List.mem_of_getElem? (i := 21) rfl)
theorem wd_25_22 : Cond.methodLink RX7 91 yX10_mayComeNext ∈ wsU := inP25 _ (List.mem_of_getElem? (i := 22) rfl)
theorem wd_25_23 : Cond.instanceMethod yX10_mayComeNext ∈ wsU := inP25 _ (List.mem_of_getElem? (i := 23) rfl)
theorem wd_26_0 : Cond.selects RX10 yX10_mayComeNext yX10_mayComeNext ∈ wsU := inP26 _ (List.mem_of_getElem? (i := 0) rfl)
theorem wd_26_1 : Cond.code yX10_mayComeNext cX10_mayComeNext 3 (some .boolean) ∈ wsU := inP26 _ (List.mem_of_getElem? (i := 1) rfl)
theorem wd_26_2 : Cond.methodLink RX7 94 yX10_costNext ∈ wsU := inP26 _ (List.mem_of_getElem? (i := 2) rfl)
theorem wd_26_3 : Cond.instanceMethod yX10_costNext ∈ wsU := inP26 _ (List.mem_of_getElem? (i := 3) rfl)
theorem wd_26_4 : Cond.selects RX10 yX10_costNext yX10_costNext ∈ wsU := inP26 _ (List.mem_of_getElem? (i := 4) rfl)
theorem wd_26_5 : Cond.code yX10_costNext cX10_costNext 3 (some .int) ∈ wsU := inP26 _ (List.mem_of_getElem? (i := 5) rfl)
theorem wd_26_6 : Cond.methodLink RX7 85 yX7_readBestRow ∈ wsU := inP26 _ (List.mem_of_getElem? (i := 6) rfl)
theorem wd_26_7 : Cond.instanceMethod yX7_readBestRow ∈ wsU := inP26 _ (List.mem_of_getElem? (i := 7) rfl)
theorem wd_26_8 : Cond.selects RX7 yX7_readBestRow yX7_readBestRow ∈ wsU := inP26 _ (List.mem_of_getElem? (i := 8) rfl)
theorem wd_26_9 : Cond.code yX7_readBestRow cX7_readBestRow 5 none ∈ wsU := inP26 _ (List.mem_of_getElem? (i := 9) rfl)
theorem wd_26_10 : Cond.methodLink RX7 98 yX7_leastBestNext ∈ wsU := inP26 _ (List.mem_of_getElem? (i := 10) rfl)
theorem wd_26_11 : Cond.instanceMethod yX7_leastBestNext ∈ wsU := inP26 _ (List.mem_of_getElem? (i := 11) rfl)
theorem wd_26_12 : Cond.selects RX7 yX7_leastBestNext yX7_leastBestNext ∈ wsU := inP26 _ (List.mem_of_getElem? (i := 12) rfl)
theorem wd_26_13 : Cond.code yX7_leastBestNext cX7_leastBestNext 4 (some .int) ∈ wsU := inP26 _ (List.mem_of_getElem? (i := 13) rfl)
theorem wd_26_14 : Cond.methodLink RX7 101 yX7_isBestNext ∈ wsU := inP26 _ (List.mem_of_getElem? (i := 14) rfl)
theorem wd_26_15 : Cond.instanceMethod yX7_isBestNext ∈ wsU := inP26 _ (List.mem_of_getElem? (i := 15) rfl)
theorem wd_26_16 : Cond.selects RX7 yX7_isBestNext yX7_isBestNext ∈ wsU := inP26 _ (List.mem_of_getElem? (i := 16) rfl)
theorem wd_26_17 : Cond.code yX7_isBestNext cX7_isBestNext 4 (some .boolean) ∈ wsU := inP26 _ (List.mem_of_getElem? (i := 17) rfl)
theorem wd_26_18 : Cond.methodLink RL 76 yX12_least ∈ wsU := inP26 _ (List.mem_of_getElem? (i := 18) rfl)
theorem wd_26_19 : Cond.instanceMethod yX12_least ∈ wsU := inP26 _ (List.mem_of_getElem? (i := 19) rfl)
theorem wd_26_20 : Cond.selects RX12 yX12_least yX12_least ∈ wsU := inP26 _ (List.mem_of_getElem? (i := 20) rfl)
theorem wd_26_21 : Cond.code yX12_least cX12_least 1 (some .int) ∈ wsU := inP26 _ (List.mem_of_getElem? (i := 21) rfl)
theorem wd_26_22 : Cond.methodLink RX12 149 yX12_look ∈ wsU := inP26 _ (List.mem_of_getElem? (i := 22) rfl)
theorem wd_26_23 : Cond.instanceMethod yX12_look ∈ wsU := inP26 _ (List.mem_of_getElem? (i := 23) rfl)
theorem wd_27_0 : Cond.selects RX12 yX12_look yX12_look ∈ wsU := inP27 _ (List.mem_of_getElem? (i := 0) rfl)
theorem wd_27_1 : Cond.code yX12_look cX12_look 1 none ∈ wsU := inP27 _ (List.mem_of_getElem? (i := 1) rfl)
theorem wd_27_2 : Cond.methodLink RX12 142 yX12_yard ∈ wsU := inP27 _ (List.mem_of_getElem? (i := 2) rfl)
theorem wd_27_3 : Cond.instanceMethod yX12_yard ∈ wsU := inP27 _ (List.mem_of_getElem? (i := 3) rfl)
theorem wd_27_4 : Cond.selects RX12 yX12_yard yX12_yard ∈ wsU := inP27 _ (List.mem_of_getElem? (i := 4) rfl)
theorem wd_27_5 : Cond.code yX12_yard cX12_yard 4 none ∈ wsU := inP27 _ (List.mem_of_getElem? (i := 5) rfl)
theorem wd_27_6 : Cond.methodLink RX12 146 yX12_layAll ∈ wsU := inP27 _ (List.mem_of_getElem? (i := 6) rfl)
theorem wd_27_7 : Cond.instanceMethod yX12_layAll ∈ wsU := inP27 _ (List.mem_of_getElem? (i := 7) rfl)
theorem wd_27_8 : Cond.selects RX12 yX12_layAll yX12_layAll ∈ wsU := inP27 _ (List.mem_of_getElem? (i := 8) rfl)
theorem wd_27_9 : Cond.code yX12_layAll cX12_layAll 5 none ∈ wsU := inP27 _ (List.mem_of_getElem? (i := 9) rfl)
theorem wd_27_10 : Cond.constant RX12 137 (2000000000) ∈ wsU := inP27 _ (List.mem_of_getElem? (i := 10) rfl)
theorem wd_27_11 : Cond.methodLink RX12 138 yX12_goes ∈ wsU := inP27 _ (List.mem_of_getElem? (i := 11) rfl)
theorem wd_27_12 : Cond.instanceMethod yX12_goes ∈ wsU := inP27 _ (List.mem_of_getElem? (i := 12) rfl)
theorem wd_27_13 : Cond.selects RX12 yX12_goes yX12_goes ∈ wsU := inP27 _ (List.mem_of_getElem? (i := 13) rfl)
theorem wd_27_14 : Cond.code yX12_goes cX12_goes 4 none ∈ wsU := inP27 _ (List.mem_of_getElem? (i := 14) rfl)
theorem wd_27_15 : Cond.methodLink RL 77 yX11_best ∈ wsU := inP27 _ (List.mem_of_getElem? (i := 15) rfl)
theorem wd_27_16 : Cond.instanceMethod yX11_best ∈ wsU := inP27 _ (List.mem_of_getElem? (i := 16) rfl)
theorem wd_27_17 : Cond.selects RX11 yX11_best yX11_best ∈ wsU := inP27 _ (List.mem_of_getElem? (i := 17) rfl)
theorem wd_27_18 : Cond.code yX11_best cX11_best 2 (some .int) ∈ wsU := inP27 _ (List.mem_of_getElem? (i := 18) rfl)
theorem wd_27_19 : Cond.methodLink RX11 215 yX7_bestAt ∈ wsU := inP27 _ (List.mem_of_getElem? (i := 19) rfl)
theorem wd_27_20 : Cond.instanceMethod yX7_bestAt ∈ wsU := inP27 _ (List.mem_of_getElem? (i := 20) rfl)
theorem wd_27_21 : Cond.selects RX7 yX7_bestAt yX7_bestAt ∈ wsU := inP27 _ (List.mem_of_getElem? (i := 21) rfl)
theorem wd_27_22 : Cond.code yX7_bestAt cX7_bestAt 3 (some .int) ∈ wsU := inP27 _ (List.mem_of_getElem? (i := 22) rfl)
theorem wd_27_23 : Cond.methodLink RL 80 yX12_best ∈ wsU := inP27 _ (List.mem_of_getElem? (i := 23) rfl)
theorem wd_28_0 : Cond.instanceMethod yX12_best ∈ wsU := inP28 _ (List.mem_of_getElem? (i := 0) rfl)
theorem wd_28_1 : Cond.selects RX12 yX12_best yX12_best ∈ wsU := inP28 _ (List.mem_of_getElem? (i := 1) rfl)
theorem wd_28_2 : Cond.code yX12_best cX12_best 8 (some .int) ∈ wsU := inP28 _ (List.mem_of_getElem? (i := 2) rfl)
theorem wd_28_3 : Cond.methodLink RL 81 yX11_many ∈ wsU := inP28 _ (List.mem_of_getElem? (i := 3) rfl)
theorem wd_28_4 : Cond.instanceMethod yX11_many ∈ wsU := inP28 _ (List.mem_of_getElem? (i := 4) rfl)
theorem wd_28_5 : Cond.selects RX11 yX11_many yX11_many ∈ wsU := inP28 _ (List.mem_of_getElem? (i := 5) rfl)
theorem wd_28_6 : Cond.code yX11_many cX11_many 1 (some .int) ∈ wsU := inP28 _ (List.mem_of_getElem? (i := 6) rfl)
theorem wd_28_7 : Cond.methodLink RX11 218 yX7_bestOrders ∈ wsU := inP28 _ (List.mem_of_getElem? (i := 7) rfl)
theorem wd_28_8 : Cond.instanceMethod yX7_bestOrders ∈ wsU := inP28 _ (List.mem_of_getElem? (i := 8) rfl)
theorem wd_28_9 : Cond.selects RX7 yX7_bestOrders yX7_bestOrders ∈ wsU := inP28 _ (List.mem_of_getElem? (i := 9) rfl)
theorem wd_28_10 : Cond.code yX7_bestOrders cX7_bestOrders 2 (some .int) ∈ wsU := inP28 _ (List.mem_of_getElem? (i := 10) rfl)
theorem wd_28_11 : Cond.methodLink RL 84 yX12_many ∈ wsU := inP28 _ (List.mem_of_getElem? (i := 11) rfl)
theorem wd_28_12 : Cond.instanceMethod yX12_many ∈ wsU := inP28 _ (List.mem_of_getElem? (i := 12) rfl)
theorem wd_28_13 : Cond.selects RX12 yX12_many yX12_many ∈ wsU := inP28 _ (List.mem_of_getElem? (i := 13) rfl)
theorem wd_28_14 : Cond.code yX12_many cX12_many 1 (some .int) ∈ wsU := inP28 _ (List.mem_of_getElem? (i := 14) rfl)
theorem wd_28_15 : Cond.methodLink RL 85 yX11_fixed ∈ wsU := inP28 _ (List.mem_of_getElem? (i := 15) rfl)
theorem wd_28_16 : Cond.instanceMethod yX11_fixed ∈ wsU := inP28 _ (List.mem_of_getElem? (i := 16) rfl)
theorem wd_28_17 : Cond.selects RX11 yX11_fixed yX11_fixed ∈ wsU := inP28 _ (List.mem_of_getElem? (i := 17) rfl)
theorem wd_28_18 : Cond.code yX11_fixed cX11_fixed 3 (some .int) ∈ wsU := inP28 _ (List.mem_of_getElem? (i := 18) rfl)
theorem wd_28_19 : Cond.methodLink RX11 221 yX7_mayStandAhead ∈ wsU := inP28 _ (List.mem_of_getElem? (i := 19) rfl)
theorem wd_28_20 : Cond.instanceMethod yX7_mayStandAhead ∈ wsU := inP28 _ (List.mem_of_getElem? (i := 20) rfl)
theorem wd_28_21 : Cond.selects RX7 yX7_mayStandAhead yX7_mayStandAhead ∈ wsU := inP28 _ (List.mem_of_getElem? (i := 21) rfl)
theorem wd_28_22 : Cond.code yX7_mayStandAhead cX7_mayStandAhead 4 (some .boolean) ∈ wsU := inP28 _ (List.mem_of_getElem? (i := 22) rfl)
theorem wd_28_23 : Cond.methodLink RX7 60 yX7_findStanding ∈ wsU := inP28 _ (List.mem_of_getElem? (i := 23) rfl)
theorem wd_29_0 : Cond.instanceMethod yX7_findStanding ∈ wsU := inP29 _ (List.mem_of_getElem? (i := 0) rfl)
theorem wd_29_1 : Cond.selects RX7 yX7_findStanding yX7_findStanding ∈ wsU := inP29 _ (List.mem_of_getElem? (i := 1) rfl)
theorem wd_29_2 : Cond.code yX7_findStanding cX7_findStanding 4 none ∈ wsU := inP29 _ (List.mem_of_getElem? (i := 2) rfl)
theorem wd_29_3 : Cond.methodLink RX7 105 yX7_beginsBestOrder ∈ wsU := inP29 _ (List.mem_of_getElem? (i := 3) rfl)
theorem wd_29_4 : Cond.instanceMethod yX7_beginsBestOrder ∈ wsU := inP29 _ (List.mem_of_getElem? (i := 4) rfl)
theorem wd_29_5 : Cond.selects RX7 yX7_beginsBestOrder yX7_beginsBestOrder ∈ wsU := inP29 _ (List.mem_of_getElem? (i := 5) rfl)
theorem wd_29_6 : Cond.code yX7_beginsBestOrder cX7_beginsBestOrder 5 (some .boolean) ∈ wsU := inP29 _ (List.mem_of_getElem? (i := 6) rfl)
theorem wd_29_7 : Cond.methodLink RX7 109 yX7_noteStanding ∈ wsU := inP29 _ (List.mem_of_getElem? (i := 7) rfl)
theorem wd_29_8 : Cond.instanceMethod yX7_noteStanding ∈ wsU := inP29 _ (List.mem_of_getElem? (i := 8) rfl)
theorem wd_29_9 : Cond.selects RX7 yX7_noteStanding yX7_noteStanding ∈ wsU := inP29 _ (List.mem_of_getElem? (i := 9) rfl)
theorem wd_29_10 : Cond.code yX7_noteStanding cX7_noteStanding 6 none ∈ wsU := inP29 _ (List.mem_of_getElem? (i := 10) rfl)
theorem wd_29_11 : Cond.methodLink RL 88 yX12_fixed ∈ wsU := inP29 _ (List.mem_of_getElem? (i := 11) rfl)
theorem wd_29_12 : Cond.instanceMethod yX12_fixed ∈ wsU := inP29 _ (List.mem_of_getElem? (i := 12) rfl)
theorem wd_29_13 : Cond.selects RX12 yX12_fixed yX12_fixed ∈ wsU := inP29 _ (List.mem_of_getElem? (i := 13) rfl)
theorem wd_29_14 : Cond.code yX12_fixed cX12_fixed 6 (some .int) ∈ wsU := inP29 _ (List.mem_of_getElem? (i := 14) rfl)
theorem wd_29_15 : Cond.methodLink RL 89 yX11_series ∈ wsU := inP29 _ (List.mem_of_getElem? (i := 15) rfl)
theorem wd_29_16 : Cond.instanceMethod yX11_series ∈ wsU := inP29 _ (List.mem_of_getElem? (i := 16) rfl)
theorem wd_29_17 : Cond.selects RX11 yX11_series yX11_series ∈ wsU := inP29 _ (List.mem_of_getElem? (i := 17) rfl)
theorem wd_29_18 : Cond.code yX11_series cX11_series 1 (some .int) ∈ wsU := inP29 _ (List.mem_of_getElem? (i := 18) rfl)
theorem wd_29_19 : Cond.methodLink RX11 225 yX10_findCrossing ∈ wsU := inP29 _ (List.mem_of_getElem? (i := 19) rfl)
theorem wd_29_20 : Cond.instanceMethod yX10_findCrossing ∈ wsU := inP29 _ (List.mem_of_getElem? (i := 20) rfl)
theorem wd_29_21 : Cond.selects RX10 yX10_findCrossing yX10_findCrossing ∈ wsU := inP29 _ (List.mem_of_getElem? (i := 21) rfl)
theorem wd_29_22 : Cond.code yX10_findCrossing cX10_findCrossing 4 (some .int) ∈ wsU := inP29 _ (List.mem_of_getElem? (i := 22) rfl)
theorem wd_29_23 : Cond.methodLink RX10 65 yX10_unbound ∈ wsU := inP29 _ (List.mem_of_getElem? (i := 23) rfl)
theorem wd_30_0 : Cond.instanceMethod yX10_unbound ∈ wsU := inP30 _ (List.mem_of_getElem? (i := 0) rfl)
theorem wd_30_1 : Cond.selects RX10 yX10_unbound yX10_unbound ∈ wsU := inP30 _ (List.mem_of_getElem? (i := 1) rfl)
theorem wd_30_2 : Cond.code yX10_unbound cX10_unbound 2 (some .int) ∈ wsU := inP30 _ (List.mem_of_getElem? (i := 2) rfl)
theorem wd_30_3 : Cond.methodLink RX10 69 yX10_findEnds ∈ wsU := inP30 _ (List.mem_of_getElem? (i := 3) rfl)
theorem wd_30_4 : Cond.instanceMethod yX10_findEnds ∈ wsU := inP30 _ (List.mem_of_getElem? (i := 4) rfl)
theorem wd_30_5 : Cond.selects RX10 yX10_findEnds yX10_findEnds ∈ wsU := inP30 _ (List.mem_of_getElem? (i := 5) rfl)
theorem wd_30_6 : Cond.code yX10_findEnds cX10_findEnds 5 (some .int) ∈ wsU := inP30 _ (List.mem_of_getElem? (i := 6) rfl)
theorem wd_30_7 : Cond.methodLink RL 92 yX12_series ∈ wsU := inP30 _ (List.mem_of_getElem? (i := 7) rfl)
theorem wd_30_8 : Cond.instanceMethod yX12_series ∈ wsU := inP30 _ (List.mem_of_getElem? (i := 8) rfl)
theorem wd_30_9 : Cond.selects RX12 yX12_series yX12_series ∈ wsU := inP30 _ (List.mem_of_getElem? (i := 9) rfl)
theorem wd_30_10 : Cond.code yX12_series cX12_series 1 (some .int) ∈ wsU := inP30 _ (List.mem_of_getElem? (i := 10) rfl)
theorem wd_30_11 : Cond.methodLink RX12 194 yX12_four ∈ wsU := inP30 _ (List.mem_of_getElem? (i := 11) rfl)
theorem wd_30_12 : Cond.instanceMethod yX12_four ∈ wsU := inP30 _ (List.mem_of_getElem? (i := 12) rfl)
theorem wd_30_13 : Cond.selects RX12 yX12_four yX12_four ∈ wsU := inP30 _ (List.mem_of_getElem? (i := 13) rfl)
theorem wd_30_14 : Cond.code yX12_four cX12_four 6 (some .int) ∈ wsU := inP30 _ (List.mem_of_getElem? (i := 14) rfl)
theorem wd_30_15 : Cond.methodLink RX12 191 yX12_apart ∈ wsU := inP30 _ (List.mem_of_getElem? (i := 15) rfl)
theorem wd_30_16 : Cond.instanceMethod yX12_apart ∈ wsU := inP30 _ (List.mem_of_getElem? (i := 16) rfl)
theorem wd_30_17 : Cond.selects RX12 yX12_apart yX12_apart ∈ wsU := inP30 _ (List.mem_of_getElem? (i := 17) rfl)
theorem wd_30_18 : Cond.code yX12_apart cX12_apart 3 (some .boolean) ∈ wsU := inP30 _ (List.mem_of_getElem? (i := 18) rfl)
theorem wd_30_19 : Cond.methodLink RL 93 yX11_shows ∈ wsU := inP30 _ (List.mem_of_getElem? (i := 19) rfl)
theorem wd_30_20 : Cond.instanceMethod yX11_shows ∈ wsU := inP30 _ (List.mem_of_getElem? (i := 20) rfl)
theorem wd_30_21 : Cond.selects RX11 yX11_shows yX11_shows ∈ wsU := inP30 _ (List.mem_of_getElem? (i := 21) rfl)
theorem wd_30_22 : Cond.code yX11_shows cX11_shows 3 (some .int) ∈ wsU := inP30 _ (List.mem_of_getElem? (i := 22) rfl)
theorem wd_30_23 : Cond.methodLink RX11 228 yX10_jobOfCrossing ∈ wsU := inP30 _ (List.mem_of_getElem? (i := 23) rfl)
theorem wd_31_0 : Cond.static yX10_jobOfCrossing ∈ wsU := inP31 _ (List.mem_of_getElem? (i := 0) rfl)
theorem wd_31_1 : Cond.code yX10_jobOfCrossing cX10_jobOfCrossing 2 (some .int) ∈ wsU := inP31 _ (List.mem_of_getElem? (i := 1) rfl)
theorem wd_31_2 : Cond.methodLink RL 96 yX12_shows ∈ wsU := inP31 _ (List.mem_of_getElem? (i := 2) rfl)
theorem wd_31_3 : Cond.instanceMethod yX12_shows ∈ wsU := inP31 _ (List.mem_of_getElem? (i := 3) rfl)
theorem wd_31_4 : Cond.selects RX12 yX12_shows yX12_shows ∈ wsU := inP31 _ (List.mem_of_getElem? (i := 4) rfl)
theorem wd_31_5 : Cond.code yX12_shows cX12_shows 3 (some .int) ∈ wsU := inP31 _ (List.mem_of_getElem? (i := 5) rfl)
theorem wd_31_6 : Cond.methodLink RL 97 yX11_turned ∈ wsU := inP31 _ (List.mem_of_getElem? (i := 6) rfl)
theorem wd_31_7 : Cond.instanceMethod yX11_turned ∈ wsU := inP31 _ (List.mem_of_getElem? (i := 7) rfl)
theorem wd_31_8 : Cond.selects RX11 yX11_turned yX11_turned ∈ wsU := inP31 _ (List.mem_of_getElem? (i := 8) rfl)
theorem wd_31_9 : Cond.code yX11_turned cX11_turned 2 (some .int) ∈ wsU := inP31 _ (List.mem_of_getElem? (i := 9) rfl)
theorem wd_31_10 : Cond.methodLink RL 100 yX12_turned ∈ wsU := inP31 _ (List.mem_of_getElem? (i := 10) rfl)
theorem wd_31_11 : Cond.instanceMethod yX12_turned ∈ wsU := inP31 _ (List.mem_of_getElem? (i := 11) rfl)
theorem wd_31_12 : Cond.selects RX12 yX12_turned yX12_turned ∈ wsU := inP31 _ (List.mem_of_getElem? (i := 12) rfl)
theorem wd_31_13 : Cond.code yX12_turned cX12_turned 2 (some .int) ∈ wsU := inP31 _ (List.mem_of_getElem? (i := 13) rfl)
theorem wd_31_14 : Cond.methodLink RL 101 yX11_act ∈ wsU := inP31 _ (List.mem_of_getElem? (i := 14) rfl)
theorem wd_31_15 : Cond.instanceMethod yX11_act ∈ wsU := inP31 _ (List.mem_of_getElem? (i := 15) rfl)
theorem wd_31_16 : Cond.selects RX11 yX11_act yX11_act ∈ wsU := inP31 _ (List.mem_of_getElem? (i := 16) rfl)
theorem wd_31_17 : Cond.code yX11_act cX11_act 5 (some .int) ∈ wsU := inP31 _ (List.mem_of_getElem? (i := 17) rfl)
theorem wd_31_18 : Cond.methodLink RX11 231 yX0_take ∈ wsU := inP31 _ (List.mem_of_getElem? (i := 18) rfl)
theorem wd_31_19 : Cond.instanceMethod yX0_take ∈ wsU := inP31 _ (List.mem_of_getElem? (i := 19) rfl)
theorem wd_31_20 : Cond.selects RX0 yX0_take yX0_take ∈ wsU := inP31 _ (List.mem_of_getElem? (i := 20) rfl)
theorem wd_31_21 : Cond.code yX0_take cX0_take 3 none ∈ wsU := inP31 _ (List.mem_of_getElem? (i := 21) rfl)
theorem wd_31_22 : Cond.fieldLink RX0 25 "FellersOrder$Acting" "length" "I" ∈ wsU := inP31 _ (List.mem_of_getElem? (i := 22) rfl)
theorem wd_31_23 : Cond.fieldLink RX0 28 "FellersOrder$Acting" "weight" "I" ∈ wsU := inP31 _ (List.mem_of_getElem? (i := 23) rfl)
theorem wd_32_0 : Cond.fieldLink RX0 31 "FellersOrder$Acting" "moment" "I" ∈ wsU := inP32 _ (List.mem_of_getElem? (i := 0) rfl)
theorem wd_32_1 : Cond.fieldLink RX0 43 "FellersOrder$Acting" "ahead" "I" ∈ wsU := inP32 _ (List.mem_of_getElem? (i := 1) rfl)
theorem wd_32_2 : Cond.methodLink RX0 19 yX10_measure ∈ wsU := inP32 _ (List.mem_of_getElem? (i := 2) rfl)
theorem wd_32_3 : Cond.methodLink RX0 34 yX10_aheadOf ∈ wsU := inP32 _ (List.mem_of_getElem? (i := 3) rfl)
theorem wd_32_4 : Cond.methodLink RX0 38 yJ6_bitCount_0f7a4 ∈ wsU := inP32 _ (List.mem_of_getElem? (i := 4) rfl)
theorem wd_32_5 : Cond.methodLink RX11 235 ⟨"FellersOrder$JobKind", "last", "(LFellersOrder$Acting;I)I"⟩ ∈ wsU := inP32 _ (List.mem_of_getElem? (i := 5) rfl)
theorem wd_32_6 : Cond.sameMethod "FellersOrder$JobKind" "FellersOrder$JobKind" "last" "(LFellersOrder$Acting;I)I" ∈ wsU := inP32 _ (List.mem_of_getElem? (i := 6) rfl)
theorem wd_32_7 : Cond.instanceMethod ⟨"FellersOrder$JobKind", "last", "(LFellersOrder$Acting;I)I"⟩ ∈ wsU := inP32 _ (List.mem_of_getElem? (i := 7) rfl)
theorem wd_32_8 : Cond.selects RX1 ⟨"FellersOrder$JobKind", "last", "(LFellersOrder$Acting;I)I"⟩ yX1_last ∈ wsU := inP32 _ (List.mem_of_getElem? (i := 8) rfl)
theorem wd_32_9 : Cond.instanceMethod yX1_last ∈ wsU := inP32 _ (List.mem_of_getElem? (i := 9) rfl)
theorem wd_32_10 : Cond.code yX1_last cX1_last 3 (some .int) ∈ wsU := inP32 _ (List.mem_of_getElem? (i := 10) rfl)
theorem wd_32_11 : Cond.methodLink RX1 7 yX0_begin ∈ wsU := inP32 _ (List.mem_of_getElem? (i := 11) rfl)
theorem wd_32_12 : Cond.instanceMethod yX0_begin ∈ wsU := inP32 _ (List.mem_of_getElem? (i := 12) rfl)
theorem wd_32_13 : Cond.selects RX0 yX0_begin yX0_begin ∈ wsU := inP32 _ (List.mem_of_getElem? (i := 13) rfl)
theorem wd_32_14 : Cond.code yX0_begin cX0_begin 2 none ∈ wsU := inP32 _ (List.mem_of_getElem? (i := 14) rfl)
theorem wd_32_15 : Cond.methodLink RX1 17 yX9_last ∈ wsU := inP32 _ (List.mem_of_getElem? (i := 15) rfl)
theorem wd_32_16 : Cond.sameMethod "FellersOrder$UnitKind" "FellersOrder$UnitKind" "last" "(LFellersOrder$Acting;I)I" ∈ wsU := inP32 _ (List.mem_of_getElem? (i := 16) rfl)
theorem wd_32_17 : Cond.superclass RX1 RX9 ∈ wsU := inP32 _ (List.mem_of_getElem? (i := 17) rfl)
theorem wd_32_18 : Cond.instanceMethod yX9_last ∈ wsU := inP32 _ (List.mem_of_getElem? (i := 18) rfl)
theorem wd_32_19 : Cond.code yX9_last cX9_last 3 (some .int) ∈ wsU := inP32 _ (List.mem_of_getElem? (i := 19) rfl)
theorem wd_32_20 : Cond.methodLink RX9 7 yX0_begin ∈ wsU := inP32 _ (List.mem_of_getElem? (i := 20) rfl)
theorem wd_32_21 : Cond.methodLink RX9 13 yX4_last ∈ wsU := inP32 _ (List.mem_of_getElem? (i := 21) rfl)
theorem wd_32_22 : Cond.superclass RX9 RX4 ∈ wsU := inP32 _ (List.mem_of_getElem? (i := 22) rfl)
theorem wd_32_23 : Cond.instanceMethod yX4_last ∈ wsU := inP32 _ (List.mem_of_getElem? (i := 23) rfl)
theorem wd_33_0 : Cond.code yX4_last cX4_last 3 (some .int) ∈ wsU := inP33 _ (List.mem_of_getElem? (i := 0) rfl)
theorem wd_33_1 : Cond.methodLink RX4 7 yX0_begin ∈ wsU := inP33 _ (List.mem_of_getElem? (i := 1) rfl)
theorem wd_33_2 : Cond.selects RX3 ⟨"FellersOrder$JobKind", "last", "(LFellersOrder$Acting;I)I"⟩ yX4_last ∈ wsU := inP33 _ (List.mem_of_getElem? (i := 2) rfl)
theorem wd_33_3 : Cond.methodLink RX11 235 yX4_last ∈ wsU := inP33 _ (List.mem_of_getElem? (i := 3) rfl)
theorem wd_33_4 : Cond.selects RX4 yX4_last yX4_last ∈ wsU := inP33 _ (List.mem_of_getElem? (i := 4) rfl)
theorem wd_33_5 : Cond.selects RX5 ⟨"FellersOrder$JobKind", "last", "(LFellersOrder$Acting;I)I"⟩ yX5_last ∈ wsU := inP33 _ (List.mem_of_getElem? (i := 5) rfl)
theorem wd_33_6 : Cond.instanceMethod yX5_last ∈ wsU := inP33 _ (List.mem_of_getElem? (i := 6) rfl)
theorem wd_33_7 : Cond.code yX5_last cX5_last 3 (some .int) ∈ wsU := inP33 _ (List.mem_of_getElem? (i := 7) rfl)
theorem wd_33_8 : Cond.methodLink RX5 7 yX0_begin ∈ wsU := inP33 _ (List.mem_of_getElem? (i := 8) rfl)
theorem wd_33_9 : Cond.methodLink RX5 17 yX4_last ∈ wsU := inP33 _ (List.mem_of_getElem? (i := 9) rfl)
theorem wd_33_10 : Cond.superclass RX5 RX4 ∈ wsU := inP33 _ (List.mem_of_getElem? (i := 10) rfl)
theorem wd_33_11 : Cond.selects RX9 ⟨"FellersOrder$JobKind", "last", "(LFellersOrder$Acting;I)I"⟩ yX9_last ∈ wsU := inP33 _ (List.mem_of_getElem? (i := 11) rfl)
theorem wd_33_12 : Cond.methodLink RX11 239 ⟨"FellersOrder$JobKind", "weigh", "(LFellersOrder$Acting;I)I"⟩ ∈ wsU := inP33 _ (List.mem_of_getElem? (i := 12) rfl)
theorem wd_33_13 : Cond.sameMethod "FellersOrder$JobKind" "FellersOrder$JobKind" "weigh" "(LFellersOrder$Acting;I)I" ∈ wsU := inP33 _ (List.mem_of_getElem? (i := 13) rfl)
theorem wd_33_14 : Cond.selects RX1 ⟨"FellersOrder$JobKind", "weigh", "(LFellersOrder$Acting;I)I"⟩ yX4_weigh ∈ wsU := inP33 _ (List.mem_of_getElem? (i := 14) rfl)
theorem wd_33_15 : Cond.instanceMethod yX4_weigh ∈ wsU := inP33 _ (List.mem_of_getElem? (i := 15) rfl)
theorem wd_33_16 : Cond.code yX4_weigh cX4_weigh 3 (some .int) ∈ wsU := inP33 _ (List.mem_of_getElem? (i := 16) rfl)
theorem wd_33_17 : Cond.methodLink RX4 17 ⟨"FellersOrder$JobKind", "last", "(LFellersOrder$Acting;I)I"⟩ ∈ wsU := inP33 _ (List.mem_of_getElem? (i := 17) rfl)
theorem wd_33_18 : Cond.methodLink RX4 17 yX4_last ∈ wsU := inP33 _ (List.mem_of_getElem? (i := 18) rfl)
theorem wd_33_19 : Cond.instanceMethod ⟨"FellersOrder$JobKind", "weigh", "(LFellersOrder$Acting;I)I"⟩ ∈ wsU := inP33 _ (List.mem_of_getElem? (i := 19) rfl)
theorem wd_33_20 : Cond.selects RX3 ⟨"FellersOrder$JobKind", "weigh", "(LFellersOrder$Acting;I)I"⟩ yX3_weigh ∈ wsU := inP33 _ (List.mem_of_getElem? (i := 20) rfl)
theorem wd_33_21 : Cond.instanceMethod yX3_weigh ∈ wsU := inP33 _ (List.mem_of_getElem? (i := 21) rfl)
theorem wd_33_22 : Cond.code yX3_weigh cX3_weigh 3 (some .int) ∈ wsU := inP33 _ (List.mem_of_getElem? (i := 22) rfl)
theorem wd_33_23 : Cond.methodLink RX3 7 yX0_begin ∈ wsU := inP33 _ (List.mem_of_getElem? (i := 23) rfl)
theorem wd_34_0 : Cond.methodLink RX3 13 yX4_weigh ∈ wsU := inP34 _ (List.mem_of_getElem? (i := 0) rfl)
theorem wd_34_1 : Cond.superclass RX3 RX4 ∈ wsU := inP34 _ (List.mem_of_getElem? (i := 1) rfl)
theorem wd_34_2 : Cond.methodLink RX11 239 yX4_weigh ∈ wsU := inP34 _ (List.mem_of_getElem? (i := 2) rfl)
theorem wd_34_3 : Cond.selects RX4 yX4_weigh yX4_weigh ∈ wsU := inP34 _ (List.mem_of_getElem? (i := 3) rfl)
theorem wd_34_4 : Cond.selects RX5 ⟨"FellersOrder$JobKind", "weigh", "(LFellersOrder$Acting;I)I"⟩ yX4_weigh ∈ wsU := inP34 _ (List.mem_of_getElem? (i := 4) rfl)
theorem wd_34_5 : Cond.selects RX9 ⟨"FellersOrder$JobKind", "weigh", "(LFellersOrder$Acting;I)I"⟩ yX4_weigh ∈ wsU := inP34 _ (List.mem_of_getElem? (i := 5) rfl)
theorem wd_34_6 : Cond.methodLink RX11 242 ⟨"FellersOrder$JobKind", "follow", "(LFellersOrder$Acting;I)I"⟩ ∈ wsU := inP34 _ (List.mem_of_getElem? (i := 6) rfl)
theorem wd_34_7 : Cond.sameMethod "FellersOrder$JobKind" "FellersOrder$JobKind" "follow" "(LFellersOrder$Acting;I)I" ∈ wsU := inP34 _ (List.mem_of_getElem? (i := 7) rfl)
theorem wd_34_8 : Cond.instanceMethod ⟨"FellersOrder$JobKind", "follow", "(LFellersOrder$Acting;I)I"⟩ ∈ wsU := inP34 _ (List.mem_of_getElem? (i := 8) rfl)
theorem wd_34_9 : Cond.selects RX1 ⟨"FellersOrder$JobKind", "follow", "(LFellersOrder$Acting;I)I"⟩ yX1_follow ∈ wsU := inP34 _ (List.mem_of_getElem? (i := 9) rfl)
theorem wd_34_10 : Cond.instanceMethod yX1_follow ∈ wsU := inP34 _ (List.mem_of_getElem? (i := 10) rfl)
theorem wd_34_11 : Cond.code yX1_follow cX1_follow 3 (some .int) ∈ wsU := inP34 _ (List.mem_of_getElem? (i := 11) rfl)
theorem wd_34_12 : Cond.code yX4_follow cX4_follow 3 (some .int) ∈ wsU := inP34 _ (List.mem_of_getElem? (i := 12) rfl)
theorem wd_34_13 : Cond.selects RX3 ⟨"FellersOrder$JobKind", "follow", "(LFellersOrder$Acting;I)I"⟩ yX4_follow ∈ wsU := inP34 _ (List.mem_of_getElem? (i := 13) rfl)
theorem wd_34_14 : Cond.instanceMethod yX4_follow ∈ wsU := inP34 _ (List.mem_of_getElem? (i := 14) rfl)
theorem wd_34_15 : Cond.methodLink RX11 242 yX4_follow ∈ wsU := inP34 _ (List.mem_of_getElem? (i := 15) rfl)
theorem wd_34_16 : Cond.selects RX4 yX4_follow yX4_follow ∈ wsU := inP34 _ (List.mem_of_getElem? (i := 16) rfl)
theorem wd_34_17 : Cond.selects RX5 ⟨"FellersOrder$JobKind", "follow", "(LFellersOrder$Acting;I)I"⟩ yX4_follow ∈ wsU := inP34 _ (List.mem_of_getElem? (i := 17) rfl)
theorem wd_34_18 : Cond.selects RX9 ⟨"FellersOrder$JobKind", "follow", "(LFellersOrder$Acting;I)I"⟩ yX4_follow ∈ wsU := inP34 _ (List.mem_of_getElem? (i := 18) rfl)
theorem wd_34_19 : Cond.methodLink RX11 245 ⟨"FellersOrder$JobKind", "tell", "(LFellersOrder$Acting;I)I"⟩ ∈ wsU := inP34 _ (List.mem_of_getElem? (i := 19) rfl)
theorem wd_34_20 : Cond.sameMethod "FellersOrder$JobKind" "FellersOrder$JobKind" "tell" "(LFellersOrder$Acting;I)I" ∈ wsU := inP34 _ (List.mem_of_getElem? (i := 20) rfl)
theorem wd_34_21 : Cond.instanceMethod ⟨"FellersOrder$JobKind", "tell", "(LFellersOrder$Acting;I)I"⟩ ∈ wsU := inP34 _ (List.mem_of_getElem? (i := 21) rfl)
theorem wd_34_22 : Cond.selects RX1 ⟨"FellersOrder$JobKind", "tell", "(LFellersOrder$Acting;I)I"⟩ yX9_tell ∈ wsU := inP34 _ (List.mem_of_getElem? (i := 22) rfl)
theorem wd_34_23 : Cond.instanceMethod yX9_tell ∈ wsU := inP34 _ (List.mem_of_getElem? (i := 23) rfl)
theorem wd_35_0 : Cond.code yX9_tell cX9_tell 3 (some .int) ∈ wsU := inP35 _ (List.mem_of_getElem? (i := 0) rfl)
theorem wd_35_1 : Cond.methodLink RX9 17 yX4_tell ∈ wsU := inP35 _ (List.mem_of_getElem? (i := 1) rfl)
theorem wd_35_2 : Cond.instanceMethod yX4_tell ∈ wsU := inP35 _ (List.mem_of_getElem? (i := 2) rfl)
theorem wd_35_3 : Cond.code yX4_tell cX4_tell 3 (some .int) ∈ wsU := inP35 _ (List.mem_of_getElem? (i := 3) rfl)
theorem wd_35_4 : Cond.methodLink RX4 29 ⟨"FellersOrder$JobKind", "weigh", "(LFellersOrder$Acting;I)I"⟩ ∈ wsU := inP35 _ (List.mem_of_getElem? (i := 4) rfl)
theorem wd_35_5 : Cond.methodLink RX4 29 yX4_weigh ∈ wsU := inP35 _ (List.mem_of_getElem? (i := 5) rfl)
theorem wd_35_6 : Cond.methodLink RX4 32 ⟨"FellersOrder$JobKind", "follow", "(LFellersOrder$Acting;I)I"⟩ ∈ wsU := inP35 _ (List.mem_of_getElem? (i := 6) rfl)
theorem wd_35_7 : Cond.methodLink RX4 32 yX4_follow ∈ wsU := inP35 _ (List.mem_of_getElem? (i := 7) rfl)
theorem wd_35_8 : Cond.selects RX3 ⟨"FellersOrder$JobKind", "tell", "(LFellersOrder$Acting;I)I"⟩ yX4_tell ∈ wsU := inP35 _ (List.mem_of_getElem? (i := 8) rfl)
theorem wd_35_9 : Cond.methodLink RX11 245 yX4_tell ∈ wsU := inP35 _ (List.mem_of_getElem? (i := 9) rfl)
theorem wd_35_10 : Cond.selects RX4 yX4_tell yX4_tell ∈ wsU := inP35 _ (List.mem_of_getElem? (i := 10) rfl)
theorem wd_35_11 : Cond.selects RX5 ⟨"FellersOrder$JobKind", "tell", "(LFellersOrder$Acting;I)I"⟩ yX5_tell ∈ wsU := inP35 _ (List.mem_of_getElem? (i := 11) rfl)
theorem wd_35_12 : Cond.instanceMethod yX5_tell ∈ wsU := inP35 _ (List.mem_of_getElem? (i := 12) rfl)
theorem wd_35_13 : Cond.code yX5_tell cX5_tell 3 (some .int) ∈ wsU := inP35 _ (List.mem_of_getElem? (i := 13) rfl)
theorem wd_35_14 : Cond.methodLink RX5 21 ⟨"FellersOrder$LateKind", "follow", "(LFellersOrder$Acting;I)I"⟩ ∈ wsU := inP35 _ (List.mem_of_getElem? (i := 14) rfl)
theorem wd_35_15 : Cond.sameMethod "FellersOrder$LateKind" "FellersOrder$JobKind" "follow" "(LFellersOrder$Acting;I)I" ∈ wsU := inP35 _ (List.mem_of_getElem? (i := 15) rfl)
theorem wd_35_16 : Cond.selects RX5 ⟨"FellersOrder$LateKind", "follow", "(LFellersOrder$Acting;I)I"⟩ yX4_follow ∈ wsU := inP35 _ (List.mem_of_getElem? (i := 16) rfl)
theorem wd_35_17 : Cond.methodLink RX5 26 yX4_tell ∈ wsU := inP35 _ (List.mem_of_getElem? (i := 17) rfl)
theorem wd_35_18 : Cond.selects RX9 ⟨"FellersOrder$JobKind", "tell", "(LFellersOrder$Acting;I)I"⟩ yX9_tell ∈ wsU := inP35 _ (List.mem_of_getElem? (i := 18) rfl)
theorem wd_35_19 : Cond.methodLink RL 104 yX12_act ∈ wsU := inP35 _ (List.mem_of_getElem? (i := 19) rfl)
theorem wd_35_20 : Cond.instanceMethod yX12_act ∈ wsU := inP35 _ (List.mem_of_getElem? (i := 20) rfl)
theorem wd_35_21 : Cond.selects RX12 yX12_act yX12_act ∈ wsU := inP35 _ (List.mem_of_getElem? (i := 21) rfl)
theorem wd_35_22 : Cond.code yX12_act cX12_act 5 (some .int) ∈ wsU := inP35 _ (List.mem_of_getElem? (i := 22) rfl)
theorem wd_35_23 : Cond.methodLink RX12 209 yX12_last ∈ wsU := inP35 _ (List.mem_of_getElem? (i := 23) rfl)
theorem wd_36_0 : Cond.instanceMethod yX12_last ∈ wsU := inP36 _ (List.mem_of_getElem? (i := 0) rfl)
theorem wd_36_1 : Cond.selects RX12 yX12_last yX12_last ∈ wsU := inP36 _ (List.mem_of_getElem? (i := 1) rfl)
theorem wd_36_2 : Cond.code yX12_last cX12_last 5 (some .int) ∈ wsU := inP36 _ (List.mem_of_getElem? (i := 2) rfl)
theorem wd_36_3 : Cond.methodLink RX12 203 yX12_unitLast ∈ wsU := inP36 _ (List.mem_of_getElem? (i := 3) rfl)
theorem wd_36_4 : Cond.instanceMethod yX12_unitLast ∈ wsU := inP36 _ (List.mem_of_getElem? (i := 4) rfl)
theorem wd_36_5 : Cond.selects RX12 yX12_unitLast yX12_unitLast ∈ wsU := inP36 _ (List.mem_of_getElem? (i := 5) rfl)
theorem wd_36_6 : Cond.code yX12_unitLast cX12_unitLast 3 (some .int) ∈ wsU := inP36 _ (List.mem_of_getElem? (i := 6) rfl)
theorem wd_36_7 : Cond.methodLink RX12 197 yX12_ran ∈ wsU := inP36 _ (List.mem_of_getElem? (i := 7) rfl)
theorem wd_36_8 : Cond.instanceMethod yX12_ran ∈ wsU := inP36 _ (List.mem_of_getElem? (i := 8) rfl)
theorem wd_36_9 : Cond.selects RX12 yX12_ran yX12_ran ∈ wsU := inP36 _ (List.mem_of_getElem? (i := 9) rfl)
theorem wd_36_10 : Cond.code yX12_ran cX12_ran 2 none ∈ wsU := inP36 _ (List.mem_of_getElem? (i := 10) rfl)
theorem wd_36_11 : Cond.methodLink RX12 200 yX12_jobLast ∈ wsU := inP36 _ (List.mem_of_getElem? (i := 11) rfl)
theorem wd_36_12 : Cond.instanceMethod yX12_jobLast ∈ wsU := inP36 _ (List.mem_of_getElem? (i := 12) rfl)
theorem wd_36_13 : Cond.selects RX12 yX12_jobLast yX12_jobLast ∈ wsU := inP36 _ (List.mem_of_getElem? (i := 13) rfl)
theorem wd_36_14 : Cond.code yX12_jobLast cX12_jobLast 3 (some .int) ∈ wsU := inP36 _ (List.mem_of_getElem? (i := 14) rfl)
theorem wd_36_15 : Cond.methodLink RX12 206 yX12_jobFollow ∈ wsU := inP36 _ (List.mem_of_getElem? (i := 15) rfl)
theorem wd_36_16 : Cond.instanceMethod yX12_jobFollow ∈ wsU := inP36 _ (List.mem_of_getElem? (i := 16) rfl)
theorem wd_36_17 : Cond.selects RX12 yX12_jobFollow yX12_jobFollow ∈ wsU := inP36 _ (List.mem_of_getElem? (i := 17) rfl)
theorem wd_36_18 : Cond.code yX12_jobFollow cX12_jobFollow 3 (some .int) ∈ wsU := inP36 _ (List.mem_of_getElem? (i := 18) rfl)
theorem wd_36_19 : Cond.methodLink RX12 213 yX12_weigh ∈ wsU := inP36 _ (List.mem_of_getElem? (i := 19) rfl)
theorem wd_36_20 : Cond.instanceMethod yX12_weigh ∈ wsU := inP36 _ (List.mem_of_getElem? (i := 20) rfl)
theorem wd_36_21 : Cond.selects RX12 yX12_weigh yX12_weigh ∈ wsU := inP36 _ (List.mem_of_getElem? (i := 21) rfl)
theorem wd_36_22 : Cond.code yX12_weigh cX12_weigh 5 (some .int) ∈ wsU := inP36 _ (List.mem_of_getElem? (i := 22) rfl)
theorem wd_36_23 : Cond.methodLink RX12 216 yX12_follow ∈ wsU := inP36 _ (List.mem_of_getElem? (i := 23) rfl)
theorem wd_37_0 : Cond.instanceMethod yX12_follow ∈ wsU := inP37 _ (List.mem_of_getElem? (i := 0) rfl)
theorem wd_37_1 : Cond.selects RX12 yX12_follow yX12_follow ∈ wsU := inP37 _ (List.mem_of_getElem? (i := 1) rfl)
theorem wd_37_2 : Cond.code yX12_follow cX12_follow 4 (some .int) ∈ wsU := inP37 _ (List.mem_of_getElem? (i := 2) rfl)
theorem wd_37_3 : Cond.methodLink RX12 222 yX12_tell ∈ wsU := inP37 _ (List.mem_of_getElem? (i := 3) rfl)
theorem wd_37_4 : Cond.instanceMethod yX12_tell ∈ wsU := inP37 _ (List.mem_of_getElem? (i := 4) rfl)
theorem wd_37_5 : Cond.selects RX12 yX12_tell yX12_tell ∈ wsU := inP37 _ (List.mem_of_getElem? (i := 5) rfl)
theorem wd_37_6 : Cond.code yX12_tell cX12_tell 5 (some .int) ∈ wsU := inP37 _ (List.mem_of_getElem? (i := 6) rfl)
theorem wd_37_7 : Cond.methodLink RX12 219 yX12_jobTell ∈ wsU := inP37 _ (List.mem_of_getElem? (i := 7) rfl)
theorem wd_37_8 : Cond.instanceMethod yX12_jobTell ∈ wsU := inP37 _ (List.mem_of_getElem? (i := 8) rfl)
theorem wd_37_9 : Cond.selects RX12 yX12_jobTell yX12_jobTell ∈ wsU := inP37 _ (List.mem_of_getElem? (i := 9) rfl)
theorem wd_37_10 : Cond.code yX12_jobTell cX12_jobTell 5 (some .int) ∈ wsU := inP37 _ (List.mem_of_getElem? (i := 10) rfl)
theorem wd_37_11 : Cond.methodLink RL 105 yX11_trace ∈ wsU := inP37 _ (List.mem_of_getElem? (i := 11) rfl)
theorem wd_37_12 : Cond.instanceMethod yX11_trace ∈ wsU := inP37 _ (List.mem_of_getElem? (i := 12) rfl)
theorem wd_37_13 : Cond.selects RX11 yX11_trace yX11_trace ∈ wsU := inP37 _ (List.mem_of_getElem? (i := 13) rfl)
theorem wd_37_14 : Cond.code yX11_trace cX11_trace 2 (some .int) ∈ wsU := inP37 _ (List.mem_of_getElem? (i := 14) rfl)
theorem wd_37_15 : Cond.methodLink RX11 248 yX0_bodyAt ∈ wsU := inP37 _ (List.mem_of_getElem? (i := 15) rfl)
theorem wd_37_16 : Cond.instanceMethod yX0_bodyAt ∈ wsU := inP37 _ (List.mem_of_getElem? (i := 16) rfl)
theorem wd_37_17 : Cond.selects RX0 yX0_bodyAt yX0_bodyAt ∈ wsU := inP37 _ (List.mem_of_getElem? (i := 17) rfl)
theorem wd_37_18 : Cond.code yX0_bodyAt cX0_bodyAt 2 (some .int) ∈ wsU := inP37 _ (List.mem_of_getElem? (i := 18) rfl)
theorem wd_37_19 : Cond.methodLink RL 108 yX12_trace ∈ wsU := inP37 _ (List.mem_of_getElem? (i := 19) rfl)
theorem wd_37_20 : Cond.instanceMethod yX12_trace ∈ wsU := inP37 _ (List.mem_of_getElem? (i := 20) rfl)
theorem wd_37_21 : Cond.selects RX12 yX12_trace yX12_trace ∈ wsU := inP37 _ (List.mem_of_getElem? (i := 21) rfl)
theorem wd_37_22 : Cond.code yX12_trace cX12_trace 2 (some .int) ∈ wsU := inP37 _ (List.mem_of_getElem? (i := 22) rfl)
theorem wd_37_23 : Cond.methodLink RL 109 yX11_sheet ∈ wsU := inP37 _ (List.mem_of_getElem? (i := 23) rfl)
theorem wd_38_0 : Cond.instanceMethod yX11_sheet ∈ wsU := inP38 _ (List.mem_of_getElem? (i := 0) rfl)
theorem wd_38_1 : Cond.selects RX11 yX11_sheet yX11_sheet ∈ wsU := inP38 _ (List.mem_of_getElem? (i := 1) rfl)
theorem wd_38_2 : Cond.code yX11_sheet cX11_sheet 4 (some .int) ∈ wsU := inP38 _ (List.mem_of_getElem? (i := 2) rfl)
theorem wd_38_3 : Cond.methodLink RX11 251 yX11_isSheet ∈ wsU := inP38 _ (List.mem_of_getElem? (i := 3) rfl)
theorem wd_38_4 : Cond.static yX11_isSheet ∈ wsU := inP38 _ (List.mem_of_getElem? (i := 4) rfl)
theorem wd_38_5 : Cond.code yX11_isSheet cX11_isSheet 1 (some .boolean) ∈ wsU := inP38 _ (List.mem_of_getElem? (i := 5) rfl)
theorem wd_38_6 : Cond.methodLink RX11 254 yX8_remove ∈ wsU := inP38 _ (List.mem_of_getElem? (i := 6) rfl)
theorem wd_38_7 : Cond.instanceMethod yX8_remove ∈ wsU := inP38 _ (List.mem_of_getElem? (i := 7) rfl)
theorem wd_38_8 : Cond.selects RX8 yX8_remove yX8_remove ∈ wsU := inP38 _ (List.mem_of_getElem? (i := 8) rfl)
theorem wd_38_9 : Cond.code yX8_remove cX8_remove 1 none ∈ wsU := inP38 _ (List.mem_of_getElem? (i := 9) rfl)
theorem wd_38_10 : Cond.fieldLink RX8 19 "FellersOrder$Sheet" "size" "I" ∈ wsU := inP38 _ (List.mem_of_getElem? (i := 10) rfl)
theorem wd_38_11 : Cond.methodLink RX11 257 yX8_make ∈ wsU := inP38 _ (List.mem_of_getElem? (i := 11) rfl)
theorem wd_38_12 : Cond.instanceMethod yX8_make ∈ wsU := inP38 _ (List.mem_of_getElem? (i := 12) rfl)
theorem wd_38_13 : Cond.selects RX8 yX8_make yX8_make ∈ wsU := inP38 _ (List.mem_of_getElem? (i := 13) rfl)
theorem wd_38_14 : Cond.code yX8_make cX8_make 4 none ∈ wsU := inP38 _ (List.mem_of_getElem? (i := 14) rfl)
theorem wd_38_15 : Cond.methodLink RL 112 yX12_sheet ∈ wsU := inP38 _ (List.mem_of_getElem? (i := 15) rfl)
theorem wd_38_16 : Cond.instanceMethod yX12_sheet ∈ wsU := inP38 _ (List.mem_of_getElem? (i := 16) rfl)
theorem wd_38_17 : Cond.selects RX12 yX12_sheet yX12_sheet ∈ wsU := inP38 _ (List.mem_of_getElem? (i := 17) rfl)
theorem wd_38_18 : Cond.code yX12_sheet cX12_sheet 5 (some .int) ∈ wsU := inP38 _ (List.mem_of_getElem? (i := 18) rfl)
theorem wd_38_19 : Cond.methodLink RL 113 yX11_cell ∈ wsU := inP38 _ (List.mem_of_getElem? (i := 19) rfl)
theorem wd_38_20 : Cond.instanceMethod yX11_cell ∈ wsU := inP38 _ (List.mem_of_getElem? (i := 20) rfl)
theorem wd_38_21 : Cond.selects RX11 yX11_cell yX11_cell ∈ wsU := inP38 _ (List.mem_of_getElem? (i := 21) rfl)
theorem wd_38_22 : Cond.code yX11_cell cX11_cell 5 (some .int) ∈ wsU := inP38 _ (List.mem_of_getElem? (i := 22) rfl)
theorem wd_38_23 : Cond.methodLink RX11 260 yX8_isMissing ∈ wsU := inP38 _ (List.mem_of_getElem? (i := 23) rfl)
theorem wd_39_0 : Cond.instanceMethod yX8_isMissing ∈ wsU := inP39 _ (List.mem_of_getElem? (i := 0) rfl)
theorem wd_39_1 : Cond.selects RX8 yX8_isMissing yX8_isMissing ∈ wsU := inP39 _ (List.mem_of_getElem? (i := 1) rfl)
theorem wd_39_2 : Cond.code yX8_isMissing cX8_isMissing 1 (some .boolean) ∈ wsU := inP39 _ (List.mem_of_getElem? (i := 2) rfl)
theorem wd_39_3 : Cond.methodLink RX11 263 yX8_size ∈ wsU := inP39 _ (List.mem_of_getElem? (i := 3) rfl)
theorem wd_39_4 : Cond.instanceMethod yX8_size ∈ wsU := inP39 _ (List.mem_of_getElem? (i := 4) rfl)
theorem wd_39_5 : Cond.selects RX8 yX8_size yX8_size ∈ wsU := inP39 _ (List.mem_of_getElem? (i := 5) rfl)
theorem wd_39_6 : Cond.code yX8_size cX8_size 1 (some .int) ∈ wsU := inP39 _ (List.mem_of_getElem? (i := 6) rfl)
theorem wd_39_7 : Cond.methodLink RX11 264 yX8_write ∈ wsU := inP39 _ (List.mem_of_getElem? (i := 7) rfl)
theorem wd_39_8 : Cond.instanceMethod yX8_write ∈ wsU := inP39 _ (List.mem_of_getElem? (i := 8) rfl)
theorem wd_39_9 : Cond.selects RX8 yX8_write yX8_write ∈ wsU := inP39 _ (List.mem_of_getElem? (i := 9) rfl)
theorem wd_39_10 : Cond.code yX8_write cX8_write 3 none ∈ wsU := inP39 _ (List.mem_of_getElem? (i := 10) rfl)
theorem wd_39_11 : Cond.methodLink RL 116 yX12_cell ∈ wsU := inP39 _ (List.mem_of_getElem? (i := 11) rfl)
theorem wd_39_12 : Cond.instanceMethod yX12_cell ∈ wsU := inP39 _ (List.mem_of_getElem? (i := 12) rfl)
theorem wd_39_13 : Cond.selects RX12 yX12_cell yX12_cell ∈ wsU := inP39 _ (List.mem_of_getElem? (i := 13) rfl)
theorem wd_39_14 : Cond.code yX12_cell cX12_cell 4 (some .int) ∈ wsU := inP39 _ (List.mem_of_getElem? (i := 14) rfl)
theorem wd_39_15 : Cond.methodLink RL 117 yX11_fromSheet ∈ wsU := inP39 _ (List.mem_of_getElem? (i := 15) rfl)
theorem wd_39_16 : Cond.instanceMethod yX11_fromSheet ∈ wsU := inP39 _ (List.mem_of_getElem? (i := 16) rfl)
theorem wd_39_17 : Cond.selects RX11 yX11_fromSheet yX11_fromSheet ∈ wsU := inP39 _ (List.mem_of_getElem? (i := 17) rfl)
theorem wd_39_18 : Cond.code yX11_fromSheet cX11_fromSheet 8 (some .int) ∈ wsU := inP39 _ (List.mem_of_getElem? (i := 18) rfl)
theorem wd_39_19 : Cond.methodLink RX11 267 yX8_refusalAs ∈ wsU := inP39 _ (List.mem_of_getElem? (i := 19) rfl)
theorem wd_39_20 : Cond.instanceMethod yX8_refusalAs ∈ wsU := inP39 _ (List.mem_of_getElem? (i := 20) rfl)
theorem wd_39_21 : Cond.selects RX8 yX8_refusalAs yX8_refusalAs ∈ wsU := inP39 _ (List.mem_of_getElem? (i := 21) rfl)
theorem wd_39_22 : Cond.code yX8_refusalAs cX8_refusalAs 2 (some .int) ∈ wsU := inP39 _ (List.mem_of_getElem? (i := 22) rfl)
theorem wd_39_23 : Cond.methodLink RX8 22 yX8_isMissing ∈ wsU := inP39 _ (List.mem_of_getElem? (i := 23) rfl)
theorem wd_40_0 : Cond.methodLink RX8 26 yX8_isOfSort ∈ wsU := inP40 _ (List.mem_of_getElem? (i := 0) rfl)
theorem wd_40_1 : Cond.instanceMethod yX8_isOfSort ∈ wsU := inP40 _ (List.mem_of_getElem? (i := 1) rfl)
theorem wd_40_2 : Cond.selects RX8 yX8_isOfSort yX8_isOfSort ∈ wsU := inP40 _ (List.mem_of_getElem? (i := 2) rfl)
theorem wd_40_3 : Cond.code yX8_isOfSort cX8_isOfSort 2 (some .boolean) ∈ wsU := inP40 _ (List.mem_of_getElem? (i := 3) rfl)
theorem wd_40_4 : Cond.methodLink RX11 270 yX8_numberAt ∈ wsU := inP40 _ (List.mem_of_getElem? (i := 4) rfl)
theorem wd_40_5 : Cond.instanceMethod yX8_numberAt ∈ wsU := inP40 _ (List.mem_of_getElem? (i := 5) rfl)
theorem wd_40_6 : Cond.selects RX8 yX8_numberAt yX8_numberAt ∈ wsU := inP40 _ (List.mem_of_getElem? (i := 6) rfl)
theorem wd_40_7 : Cond.code yX8_numberAt cX8_numberAt 2 (some .int) ∈ wsU := inP40 _ (List.mem_of_getElem? (i := 7) rfl)
theorem wd_40_8 : Cond.methodLink RL 120 yX12_fromSheet ∈ wsU := inP40 _ (List.mem_of_getElem? (i := 8) rfl)
theorem wd_40_9 : Cond.instanceMethod yX12_fromSheet ∈ wsU := inP40 _ (List.mem_of_getElem? (i := 9) rfl)
theorem wd_40_10 : Cond.selects RX12 yX12_fromSheet yX12_fromSheet ∈ wsU := inP40 _ (List.mem_of_getElem? (i := 10) rfl)
theorem wd_40_11 : Cond.code yX12_fromSheet cX12_fromSheet 8 (some .int) ∈ wsU := inP40 _ (List.mem_of_getElem? (i := 11) rfl)
theorem wd_40_12 : Cond.constantLong RX12 225 (100) ∈ wsU := inP40 _ (List.mem_of_getElem? (i := 12) rfl)
theorem wd_40_13 : Cond.methodLink RL 121 yX11_forge ∈ wsU := inP40 _ (List.mem_of_getElem? (i := 13) rfl)
theorem wd_40_14 : Cond.instanceMethod yX11_forge ∈ wsU := inP40 _ (List.mem_of_getElem? (i := 14) rfl)
theorem wd_40_15 : Cond.selects RX11 yX11_forge yX11_forge ∈ wsU := inP40 _ (List.mem_of_getElem? (i := 15) rfl)
theorem wd_40_16 : Cond.code yX11_forge cX11_forge 5 (some .int) ∈ wsU := inP40 _ (List.mem_of_getElem? (i := 16) rfl)
theorem wd_40_17 : Cond.methodLink RX11 273 yJ9_floorMod_7cf53 ∈ wsU := inP40 _ (List.mem_of_getElem? (i := 17) rfl)
theorem wd_40_18 : Cond.static yJ9_floorMod_7cf53 ∈ wsU := inP40 _ (List.mem_of_getElem? (i := 18) rfl)
theorem wd_40_19 : Cond.initialized RJ9 ∈ wsU := inP40 _ (List.mem_of_getElem? (i := 19) rfl)
theorem wd_40_20 : Cond.code yJ9_floorMod_7cf53 cJ9_floorMod_7cf53 3 (some .int) ∈ wsU := inP40 _ (List.mem_of_getElem? (i := 20) rfl)
theorem wd_40_21 : Cond.methodLink RX11 278 yX11_forgeSize ∈ wsU := inP40 _ (List.mem_of_getElem? (i := 21) rfl)
theorem wd_40_22 : Cond.instanceMethod yX11_forgeSize ∈ wsU := inP40 _ (List.mem_of_getElem? (i := 22) rfl)
theorem wd_40_23 : Cond.selects RX11 yX11_forgeSize yX11_forgeSize ∈ wsU := inP40 _ (List.mem_of_getElem? (i := 23) rfl)
theorem wd_41_0 : Cond.code yX11_forgeSize cX11_forgeSize 4 (some .int) ∈ wsU := inP41 _ (List.mem_of_getElem? (i := 0) rfl)
theorem wd_41_1 : Cond.methodLink RX11 282 yX11_forgeCopy ∈ wsU := inP41 _ (List.mem_of_getElem? (i := 1) rfl)
theorem wd_41_2 : Cond.instanceMethod yX11_forgeCopy ∈ wsU := inP41 _ (List.mem_of_getElem? (i := 2) rfl)
theorem wd_41_3 : Cond.selects RX11 yX11_forgeCopy yX11_forgeCopy ∈ wsU := inP41 _ (List.mem_of_getElem? (i := 3) rfl)
theorem wd_41_4 : Cond.code yX11_forgeCopy cX11_forgeCopy 4 (some .int) ∈ wsU := inP41 _ (List.mem_of_getElem? (i := 4) rfl)
theorem wd_41_5 : Cond.methodLink RX11 299 yX8_sumFrom ∈ wsU := inP41 _ (List.mem_of_getElem? (i := 5) rfl)
theorem wd_41_6 : Cond.instanceMethod yX8_sumFrom ∈ wsU := inP41 _ (List.mem_of_getElem? (i := 6) rfl)
theorem wd_41_7 : Cond.selects RX8 yX8_sumFrom yX8_sumFrom ∈ wsU := inP41 _ (List.mem_of_getElem? (i := 7) rfl)
theorem wd_41_8 : Cond.code yX8_sumFrom cX8_sumFrom 5 (some .int) ∈ wsU := inP41 _ (List.mem_of_getElem? (i := 8) rfl)
theorem wd_41_9 : Cond.methodLink RX11 285 yX11_forgeLaying ∈ wsU := inP41 _ (List.mem_of_getElem? (i := 9) rfl)
theorem wd_41_10 : Cond.instanceMethod yX11_forgeLaying ∈ wsU := inP41 _ (List.mem_of_getElem? (i := 10) rfl)
theorem wd_41_11 : Cond.selects RX11 yX11_forgeLaying yX11_forgeLaying ∈ wsU := inP41 _ (List.mem_of_getElem? (i := 11) rfl)
theorem wd_41_12 : Cond.code yX11_forgeLaying cX11_forgeLaying 2 (some .int) ∈ wsU := inP41 _ (List.mem_of_getElem? (i := 12) rfl)
theorem wd_41_13 : Cond.methodLink RX11 302 yX8_isOfSort ∈ wsU := inP41 _ (List.mem_of_getElem? (i := 13) rfl)
theorem wd_41_14 : Cond.methodLink RX11 289 yX11_forgeUnit ∈ wsU := inP41 _ (List.mem_of_getElem? (i := 14) rfl)
theorem wd_41_15 : Cond.instanceMethod yX11_forgeUnit ∈ wsU := inP41 _ (List.mem_of_getElem? (i := 15) rfl)
theorem wd_41_16 : Cond.selects RX11 yX11_forgeUnit yX11_forgeUnit ∈ wsU := inP41 _ (List.mem_of_getElem? (i := 16) rfl)
theorem wd_41_17 : Cond.code yX11_forgeUnit cX11_forgeUnit 2 (some .int) ∈ wsU := inP41 _ (List.mem_of_getElem? (i := 17) rfl)
theorem wd_41_18 : Cond.classLink RX11 47 "FellersOrder$UnitKind" ∈ wsU := inP41 _ (List.mem_of_getElem? (i := 18) rfl)
theorem wd_41_19 : Cond.methodLink RL 124 yX12_forge ∈ wsU := inP41 _ (List.mem_of_getElem? (i := 19) rfl)
theorem wd_41_20 : Cond.instanceMethod yX12_forge ∈ wsU := inP41 _ (List.mem_of_getElem? (i := 20) rfl)
theorem wd_41_21 : Cond.selects RX12 yX12_forge yX12_forge ∈ wsU := inP41 _ (List.mem_of_getElem? (i := 21) rfl)
theorem wd_41_22 : Cond.code yX12_forge cX12_forge 5 (some .int) ∈ wsU := inP41 _ (List.mem_of_getElem? (i := 22) rfl)
theorem wd_41_23 : Cond.methodLink RX12 227 yX12_sum ∈ wsU := inP41 _ (List.mem_of_getElem? (i := 23) rfl)
theorem wd_42_0 : Cond.instanceMethod yX12_sum ∈ wsU := inP42 _ (List.mem_of_getElem? (i := 0) rfl)
theorem wd_42_1 : Cond.selects RX12 yX12_sum yX12_sum ∈ wsU := inP42 _ (List.mem_of_getElem? (i := 1) rfl)
theorem wd_42_2 : Cond.code yX12_sum cX12_sum 5 (some .int) ∈ wsU := inP42 _ (List.mem_of_getElem? (i := 2) rfl)
theorem wd_42_3 : Cond.methodLink RX12 230 yX12_unitTaken ∈ wsU := inP42 _ (List.mem_of_getElem? (i := 3) rfl)
theorem wd_42_4 : Cond.instanceMethod yX12_unitTaken ∈ wsU := inP42 _ (List.mem_of_getElem? (i := 4) rfl)
theorem wd_42_5 : Cond.selects RX12 yX12_unitTaken yX12_unitTaken ∈ wsU := inP42 _ (List.mem_of_getElem? (i := 5) rfl)
theorem wd_42_6 : Cond.code yX12_unitTaken cX12_unitTaken 4 (some .int) ∈ wsU := inP42 _ (List.mem_of_getElem? (i := 6) rfl)
theorem wd_42_7 : Cond.methodLink RL 125 yX11_undo ∈ wsU := inP42 _ (List.mem_of_getElem? (i := 7) rfl)
theorem wd_42_8 : Cond.instanceMethod yX11_undo ∈ wsU := inP42 _ (List.mem_of_getElem? (i := 8) rfl)
theorem wd_42_9 : Cond.selects RX11 yX11_undo yX11_undo ∈ wsU := inP42 _ (List.mem_of_getElem? (i := 9) rfl)
theorem wd_42_10 : Cond.code yX11_undo cX11_undo 1 (some .int) ∈ wsU := inP42 _ (List.mem_of_getElem? (i := 10) rfl)
theorem wd_42_11 : Cond.methodLink RX11 292 yX2_takeBack ∈ wsU := inP42 _ (List.mem_of_getElem? (i := 11) rfl)
theorem wd_42_12 : Cond.instanceMethod yX2_takeBack ∈ wsU := inP42 _ (List.mem_of_getElem? (i := 12) rfl)
theorem wd_42_13 : Cond.selects RX2 yX2_takeBack yX2_takeBack ∈ wsU := inP42 _ (List.mem_of_getElem? (i := 13) rfl)
theorem wd_42_14 : Cond.code yX2_takeBack cX2_takeBack 2 none ∈ wsU := inP42 _ (List.mem_of_getElem? (i := 14) rfl)
theorem wd_42_15 : Cond.methodLink RX2 37 yX10_removeLast ∈ wsU := inP42 _ (List.mem_of_getElem? (i := 15) rfl)
theorem wd_42_16 : Cond.instanceMethod yX10_removeLast ∈ wsU := inP42 _ (List.mem_of_getElem? (i := 16) rfl)
theorem wd_42_17 : Cond.selects RX10 yX10_removeLast yX10_removeLast ∈ wsU := inP42 _ (List.mem_of_getElem? (i := 17) rfl)
theorem wd_42_18 : Cond.code yX10_removeLast cX10_removeLast 1 none ∈ wsU := inP42 _ (List.mem_of_getElem? (i := 18) rfl)
theorem wd_42_19 : Cond.methodLink RX2 42 yX10_measureAnew ∈ wsU := inP42 _ (List.mem_of_getElem? (i := 19) rfl)
theorem wd_42_20 : Cond.methodLink RX2 46 yX10_unbind ∈ wsU := inP42 _ (List.mem_of_getElem? (i := 20) rfl)
theorem wd_42_21 : Cond.methodLink RX2 50 yX10_bind ∈ wsU := inP42 _ (List.mem_of_getElem? (i := 21) rfl)
theorem wd_42_22 : Cond.methodLink RL 128 yX12_undo ∈ wsU := inP42 _ (List.mem_of_getElem? (i := 22) rfl)
theorem wd_42_23 : Cond.instanceMethod yX12_undo ∈ wsU := inP42 _ (List.mem_of_getElem? (i := 23) rfl)
theorem wd_43_0 : Cond.selects RX12 yX12_undo yX12_undo ∈ wsU := inP43 _ (List.mem_of_getElem? (i := 0) rfl)
theorem wd_43_1 : Cond.code yX12_undo cX12_undo 3 (some .int) ∈ wsU := inP43 _ (List.mem_of_getElem? (i := 1) rfl)
theorem wd_43_2 : Cond.methodLink RL 129 yX11_status ∈ wsU := inP43 _ (List.mem_of_getElem? (i := 2) rfl)
theorem wd_43_3 : Cond.instanceMethod yX11_status ∈ wsU := inP43 _ (List.mem_of_getElem? (i := 3) rfl)
theorem wd_43_4 : Cond.selects RX11 yX11_status yX11_status ∈ wsU := inP43 _ (List.mem_of_getElem? (i := 4) rfl)
theorem wd_43_5 : Cond.code yX11_status cX11_status 1 (some .int) ∈ wsU := inP43 _ (List.mem_of_getElem? (i := 5) rfl)
theorem wd_43_6 : Cond.methodLink RL 132 yX12_status ∈ wsU := inP43 _ (List.mem_of_getElem? (i := 6) rfl)
theorem wd_43_7 : Cond.instanceMethod yX12_status ∈ wsU := inP43 _ (List.mem_of_getElem? (i := 7) rfl)
theorem wd_43_8 : Cond.selects RX12 yX12_status yX12_status ∈ wsU := inP43 _ (List.mem_of_getElem? (i := 8) rfl)
theorem wd_43_9 : Cond.code yX12_status cX12_status 1 (some .int) ∈ wsU := inP43 _ (List.mem_of_getElem? (i := 9) rfl)
end
section
/-! the reference's cells: 0 the object, then its rows in the order of its fields -/
def gM (b : Nat → ClassId) (h : Nat → Nat) (k : Nat) (r : Nat → Int32) : va_E := match k with
  | 0 => .inr (12, [.int (r 0), .ref (h 1), .ref (h 2), .ref (h 3), .ref (h 4), .ref (h 5), .ref (h 6), .int (r 7), .int (r 8), .ref (h 7), .ref (h 8), .ref (h 9), .ref (h 10), .ref (h 11), .int (r 14), .ref (h 12), .int (r 16), .int (r 17), .ref (h 13), .ref (h 14), .ref (h 15), .ref (h 16), .ref (h 17), .ref (h 18), .ref (h 19), .int (r 25), .ref (h 20)])
  | 1 => .inl (b 0, 12, .inl r)
  | 2 => .inl (b 0, 12, .inl r)
  | 3 => .inl (b 0, 12, .inl r)
  | 4 => .inl (b 0, 12, .inl r)
  | 5 => .inl (b 0, 12, .inl r)
  | 6 => .inl (b 0, 12, .inl r)
  | 7 => .inl (b 0, 12, .inl r)
  | 8 => .inl (b 0, 576, .inl r)
  | 9 => .inl (b 0, 6, .inl r)
  | 10 => .inl (b 0, 6, .inl r)
  | 11 => .inl (b 1, 120, .inr (.inl (lR r)))
  | 12 => .inl (b 0, 50, .inl r)
  | 13 => .inl (b 0, 4096, .inl r)
  | 14 => .inl (b 0, 4096, .inl r)
  | 15 => .inl (b 0, 4096, .inl r)
  | 16 => .inl (b 0, 4096, .inl r)
  | 17 => .inl (b 0, 12, .inl r)
  | 18 => .inl (b 0, 12, .inl r)
  | 19 => .inl (b 0, 12, .inl r)
  | _ => .inl (b 0, 12, .inl r)
abbrev tyM (b : Nat → ClassId) : List (ClassId × FieldType) := [(b 0, .int), (b 1, .long)]
section FRM
variable {p : Program} {l : Launch} {e : Env} {R : Room} {s : State} {m : MethodId} {args : Array Value} {below : List Frame} {meth : Method} {c : Code} {H : Heap} {locs : List Loc} {cells slots : Nat} {Q : State → Prop}
variable {cc : ByteArray} {pc nL : Nat} {ls : Array Slot} {rest : List Value} {ret : Option FieldType} {D : va_G} {A : Nat → Prop} {H0 : Heap} {b : Nat → ClassId} {h : Nat → Nat} {u : St}
theorem gt_X12_7 (X : Cx p s m args meth c cc nL ret RX12 D (tyM b) A) (O : wO D 21 (gM b h) h u A H0 H locs) (hdg : decode cc pc = .ok (.getfield 7, 3)) (kk : W p l e R s m args below meth c H locs cells slots Q (F0 m (pc + 3) ls (.ref (h 1) :: rest))) : W p l e R s m args below meth c H locs cells slots Q (F0 m pc ls (.ref (h 0) :: rest)) := q_get X O 0 (by decide) (ci := 12) rfl rfl inuX12 1 (by decide) wd_5_15 rfl rfl hdg kk
theorem gt_X12_13 (X : Cx p s m args meth c cc nL ret RX12 D (tyM b) A) (O : wO D 21 (gM b h) h u A H0 H locs) (hdg : decode cc pc = .ok (.getfield 13, 3)) (kk : W p l e R s m args below meth c H locs cells slots Q (F0 m (pc + 3) ls (.ref (h 2) :: rest))) : W p l e R s m args below meth c H locs cells slots Q (F0 m pc ls (.ref (h 0) :: rest)) := q_get X O 0 (by decide) (ci := 12) rfl rfl inuX12 2 (by decide) wd_5_16 rfl rfl hdg kk
theorem gt_X12_16 (X : Cx p s m args meth c cc nL ret RX12 D (tyM b) A) (O : wO D 21 (gM b h) h u A H0 H locs) (hdg : decode cc pc = .ok (.getfield 16, 3)) (kk : W p l e R s m args below meth c H locs cells slots Q (F0 m (pc + 3) ls (.ref (h 3) :: rest))) : W p l e R s m args below meth c H locs cells slots Q (F0 m pc ls (.ref (h 0) :: rest)) := q_get X O 0 (by decide) (ci := 12) rfl rfl inuX12 3 (by decide) wd_5_17 rfl rfl hdg kk
theorem gt_X12_19 (X : Cx p s m args meth c cc nL ret RX12 D (tyM b) A) (O : wO D 21 (gM b h) h u A H0 H locs) (hdg : decode cc pc = .ok (.getfield 19, 3)) (kk : W p l e R s m args below meth c H locs cells slots Q (F0 m (pc + 3) ls (.ref (h 4) :: rest))) : W p l e R s m args below meth c H locs cells slots Q (F0 m pc ls (.ref (h 0) :: rest)) := q_get X O 0 (by decide) (ci := 12) rfl rfl inuX12 4 (by decide) wd_5_18 rfl rfl hdg kk
theorem gt_X12_22 (X : Cx p s m args meth c cc nL ret RX12 D (tyM b) A) (O : wO D 21 (gM b h) h u A H0 H locs) (hdg : decode cc pc = .ok (.getfield 22, 3)) (kk : W p l e R s m args below meth c H locs cells slots Q (F0 m (pc + 3) ls (.ref (h 5) :: rest))) : W p l e R s m args below meth c H locs cells slots Q (F0 m pc ls (.ref (h 0) :: rest)) := q_get X O 0 (by decide) (ci := 12) rfl rfl inuX12 5 (by decide) wd_5_19 rfl rfl hdg kk
theorem gt_X12_25 (X : Cx p s m args meth c cc nL ret RX12 D (tyM b) A) (O : wO D 21 (gM b h) h u A H0 H locs) (hdg : decode cc pc = .ok (.getfield 25, 3)) (kk : W p l e R s m args below meth c H locs cells slots Q (F0 m (pc + 3) ls (.ref (h 6) :: rest))) : W p l e R s m args below meth c H locs cells slots Q (F0 m pc ls (.ref (h 0) :: rest)) := q_get X O 0 (by decide) (ci := 12) rfl rfl inuX12 6 (by decide) wd_5_20 rfl rfl hdg kk
theorem gt_X12_28 (X : Cx p s m args meth c cc nL ret RX12 D (tyM b) A) (O : wO D 21 (gM b h) h u A H0 H locs) (hdg : decode cc pc = .ok (.getfield 28, 3)) (kk : W p l e R s m args below meth c H locs cells slots Q (F0 m (pc + 3) ls (.ref (h 7) :: rest))) : W p l e R s m args below meth c H locs cells slots Q (F0 m pc ls (.ref (h 0) :: rest)) := q_get X O 0 (by decide) (ci := 12) rfl rfl inuX12 9 (by decide) wd_5_21 rfl rfl hdg kk
theorem gt_X12_31 (X : Cx p s m args meth c cc nL ret RX12 D (tyM b) A) (O : wO D 21 (gM b h) h u A H0 H locs) (hdg : decode cc pc = .ok (.getfield 31, 3)) (kk : W p l e R s m args below meth c H locs cells slots Q (F0 m (pc + 3) ls (.ref (h 8) :: rest))) : W p l e R s m args below meth c H locs cells slots Q (F0 m pc ls (.ref (h 0) :: rest)) := q_get X O 0 (by decide) (ci := 12) rfl rfl inuX12 10 (by decide) wd_5_22 rfl rfl hdg kk
theorem gt_X12_34 (X : Cx p s m args meth c cc nL ret RX12 D (tyM b) A) (O : wO D 21 (gM b h) h u A H0 H locs) (hdg : decode cc pc = .ok (.getfield 34, 3)) (kk : W p l e R s m args below meth c H locs cells slots Q (F0 m (pc + 3) ls (.ref (h 9) :: rest))) : W p l e R s m args below meth c H locs cells slots Q (F0 m pc ls (.ref (h 0) :: rest)) := q_get X O 0 (by decide) (ci := 12) rfl rfl inuX12 11 (by decide) wd_5_23 rfl rfl hdg kk
theorem gt_X12_37 (X : Cx p s m args meth c cc nL ret RX12 D (tyM b) A) (O : wO D 21 (gM b h) h u A H0 H locs) (hdg : decode cc pc = .ok (.getfield 37, 3)) (kk : W p l e R s m args below meth c H locs cells slots Q (F0 m (pc + 3) ls (.ref (h 10) :: rest))) : W p l e R s m args below meth c H locs cells slots Q (F0 m pc ls (.ref (h 0) :: rest)) := q_get X O 0 (by decide) (ci := 12) rfl rfl inuX12 12 (by decide) wd_6_0 rfl rfl hdg kk
theorem gt_X12_40 (X : Cx p s m args meth c cc nL ret RX12 D (tyM b) A) (O : wO D 21 (gM b h) h u A H0 H locs) (hdg : decode cc pc = .ok (.getfield 40, 3)) (kk : W p l e R s m args below meth c H locs cells slots Q (F0 m (pc + 3) ls (.ref (h 11) :: rest))) : W p l e R s m args below meth c H locs cells slots Q (F0 m pc ls (.ref (h 0) :: rest)) := q_get X O 0 (by decide) (ci := 12) rfl rfl inuX12 13 (by decide) wd_6_2 rfl rfl hdg kk
theorem gt_X12_44 (X : Cx p s m args meth c cc nL ret RX12 D (tyM b) A) (O : wO D 21 (gM b h) h u A H0 H locs) (hdg : decode cc pc = .ok (.getfield 44, 3)) (kk : W p l e R s m args below meth c H locs cells slots Q (F0 m (pc + 3) ls (.ref (h 12) :: rest))) : W p l e R s m args below meth c H locs cells slots Q (F0 m pc ls (.ref (h 0) :: rest)) := q_get X O 0 (by decide) (ci := 12) rfl rfl inuX12 15 (by decide) wd_6_3 rfl rfl hdg kk
theorem gt_X12_47 (X : Cx p s m args meth c cc nL ret RX12 D (tyM b) A) (O : wO D 21 (gM b h) h u A H0 H locs) (hdg : decode cc pc = .ok (.getfield 47, 3)) (kk : W p l e R s m args below meth c H locs cells slots Q (F0 m (pc + 3) ls (.ref (h 13) :: rest))) : W p l e R s m args below meth c H locs cells slots Q (F0 m pc ls (.ref (h 0) :: rest)) := q_get X O 0 (by decide) (ci := 12) rfl rfl inuX12 18 (by decide) wd_6_4 rfl rfl hdg kk
theorem gt_X12_50 (X : Cx p s m args meth c cc nL ret RX12 D (tyM b) A) (O : wO D 21 (gM b h) h u A H0 H locs) (hdg : decode cc pc = .ok (.getfield 50, 3)) (kk : W p l e R s m args below meth c H locs cells slots Q (F0 m (pc + 3) ls (.ref (h 14) :: rest))) : W p l e R s m args below meth c H locs cells slots Q (F0 m pc ls (.ref (h 0) :: rest)) := q_get X O 0 (by decide) (ci := 12) rfl rfl inuX12 19 (by decide) wd_6_5 rfl rfl hdg kk
theorem gt_X12_53 (X : Cx p s m args meth c cc nL ret RX12 D (tyM b) A) (O : wO D 21 (gM b h) h u A H0 H locs) (hdg : decode cc pc = .ok (.getfield 53, 3)) (kk : W p l e R s m args below meth c H locs cells slots Q (F0 m (pc + 3) ls (.ref (h 15) :: rest))) : W p l e R s m args below meth c H locs cells slots Q (F0 m pc ls (.ref (h 0) :: rest)) := q_get X O 0 (by decide) (ci := 12) rfl rfl inuX12 20 (by decide) wd_6_6 rfl rfl hdg kk
theorem gt_X12_56 (X : Cx p s m args meth c cc nL ret RX12 D (tyM b) A) (O : wO D 21 (gM b h) h u A H0 H locs) (hdg : decode cc pc = .ok (.getfield 56, 3)) (kk : W p l e R s m args below meth c H locs cells slots Q (F0 m (pc + 3) ls (.ref (h 16) :: rest))) : W p l e R s m args below meth c H locs cells slots Q (F0 m pc ls (.ref (h 0) :: rest)) := q_get X O 0 (by decide) (ci := 12) rfl rfl inuX12 21 (by decide) wd_6_7 rfl rfl hdg kk
theorem gt_X12_59 (X : Cx p s m args meth c cc nL ret RX12 D (tyM b) A) (O : wO D 21 (gM b h) h u A H0 H locs) (hdg : decode cc pc = .ok (.getfield 59, 3)) (kk : W p l e R s m args below meth c H locs cells slots Q (F0 m (pc + 3) ls (.ref (h 17) :: rest))) : W p l e R s m args below meth c H locs cells slots Q (F0 m pc ls (.ref (h 0) :: rest)) := q_get X O 0 (by decide) (ci := 12) rfl rfl inuX12 22 (by decide) wd_6_8 rfl rfl hdg kk
theorem gt_X12_62 (X : Cx p s m args meth c cc nL ret RX12 D (tyM b) A) (O : wO D 21 (gM b h) h u A H0 H locs) (hdg : decode cc pc = .ok (.getfield 62, 3)) (kk : W p l e R s m args below meth c H locs cells slots Q (F0 m (pc + 3) ls (.ref (h 18) :: rest))) : W p l e R s m args below meth c H locs cells slots Q (F0 m pc ls (.ref (h 0) :: rest)) := q_get X O 0 (by decide) (ci := 12) rfl rfl inuX12 23 (by decide) wd_6_9 rfl rfl hdg kk
theorem gt_X12_65 (X : Cx p s m args meth c cc nL ret RX12 D (tyM b) A) (O : wO D 21 (gM b h) h u A H0 H locs) (hdg : decode cc pc = .ok (.getfield 65, 3)) (kk : W p l e R s m args below meth c H locs cells slots Q (F0 m (pc + 3) ls (.ref (h 19) :: rest))) : W p l e R s m args below meth c H locs cells slots Q (F0 m pc ls (.ref (h 0) :: rest)) := q_get X O 0 (by decide) (ci := 12) rfl rfl inuX12 24 (by decide) wd_6_10 rfl rfl hdg kk
theorem gt_X12_68 (X : Cx p s m args meth c cc nL ret RX12 D (tyM b) A) (O : wO D 21 (gM b h) h u A H0 H locs) (hdg : decode cc pc = .ok (.getfield 68, 3)) (kk : W p l e R s m args below meth c H locs cells slots Q (F0 m (pc + 3) ls (.ref (h 20) :: rest))) : W p l e R s m args below meth c H locs cells slots Q (F0 m pc ls (.ref (h 0) :: rest)) := q_get X O 0 (by decide) (ci := 12) rfl rfl inuX12 26 (by decide) wd_6_11 rfl rfl hdg kk
theorem gt_X12_71 (X : Cx p s m args meth c cc nL ret RX12 D (tyM b) A) (O : wO D 21 (gM b h) h u A H0 H locs) (hdg : decode cc pc = .ok (.getfield 71, 3)) (kk : W p l e R s m args below meth c H locs cells slots Q (F0 m (pc + 3) ls (.int (u 0 14) :: rest))) : W p l e R s m args below meth c H locs cells slots Q (F0 m pc ls (.ref (h 0) :: rest)) := q_get X O 0 (by decide) (ci := 12) rfl rfl inuX12 14 (by decide) wd_9_20 rfl rfl hdg kk
theorem pt_X12_71 {v : Int32} (X : Cx p s m args meth c cc nL ret RX12 D (tyM b) A) (O : wO D 21 (gM b h) h u A H0 H locs) (hdg : decode cc pc = .ok (.putfield 71, 3)) (kk : ∀ (H1 : Heap) (locs1 : List Loc), wO D 21 (gM b h) h (su u 0 14 v) A H0 H1 locs1 → W p l e R s m args below meth c H1 locs1 cells slots Q (F0 m (pc + 3) ls (rest))) : W p l e R s m args below meth c H locs cells slots Q (F0 m pc ls (.int v :: .ref (h 0) :: rest)) := q_put X O 0 (by decide) (ci := 12) rfl rfl inuX12 tyX12 tyX12_ok nmX12 14 (by decide) wd_9_20 rfl rfl (by decide +kernel) (by show _ < _; simp only [List.length_cons, List.length_nil]; decide) rfl hdg kk
theorem gt_X12_75 (X : Cx p s m args meth c cc nL ret RX12 D (tyM b) A) (O : wO D 21 (gM b h) h u A H0 H locs) (hdg : decode cc pc = .ok (.getfield 75, 3)) (kk : W p l e R s m args below meth c H locs cells slots Q (F0 m (pc + 3) ls (.int (u 0 0) :: rest))) : W p l e R s m args below meth c H locs cells slots Q (F0 m pc ls (.ref (h 0) :: rest)) := q_get X O 0 (by decide) (ci := 12) rfl rfl inuX12 0 (by decide) wd_9_12 rfl rfl hdg kk
theorem pt_X12_75 {v : Int32} (X : Cx p s m args meth c cc nL ret RX12 D (tyM b) A) (O : wO D 21 (gM b h) h u A H0 H locs) (hdg : decode cc pc = .ok (.putfield 75, 3)) (kk : ∀ (H1 : Heap) (locs1 : List Loc), wO D 21 (gM b h) h (su u 0 0 v) A H0 H1 locs1 → W p l e R s m args below meth c H1 locs1 cells slots Q (F0 m (pc + 3) ls (rest))) : W p l e R s m args below meth c H locs cells slots Q (F0 m pc ls (.int v :: .ref (h 0) :: rest)) := q_put X O 0 (by decide) (ci := 12) rfl rfl inuX12 tyX12 tyX12_ok nmX12 0 (by decide) wd_9_12 rfl rfl (by decide +kernel) (by show _ < _; simp only [List.length_cons, List.length_nil]; decide) rfl hdg kk
theorem gt_X12_86 (X : Cx p s m args meth c cc nL ret RX12 D (tyM b) A) (O : wO D 21 (gM b h) h u A H0 H locs) (hdg : decode cc pc = .ok (.getfield 86, 3)) (kk : W p l e R s m args below meth c H locs cells slots Q (F0 m (pc + 3) ls (.int (u 0 8) :: rest))) : W p l e R s m args below meth c H locs cells slots Q (F0 m pc ls (.ref (h 0) :: rest)) := q_get X O 0 (by decide) (ci := 12) rfl rfl inuX12 8 (by decide) wd_10_5 rfl rfl hdg kk
theorem pt_X12_86 {v : Int32} (X : Cx p s m args meth c cc nL ret RX12 D (tyM b) A) (O : wO D 21 (gM b h) h u A H0 H locs) (hdg : decode cc pc = .ok (.putfield 86, 3)) (kk : ∀ (H1 : Heap) (locs1 : List Loc), wO D 21 (gM b h) h (su u 0 8 v) A H0 H1 locs1 → W p l e R s m args below meth c H1 locs1 cells slots Q (F0 m (pc + 3) ls (rest))) : W p l e R s m args below meth c H locs cells slots Q (F0 m pc ls (.int v :: .ref (h 0) :: rest)) := q_put X O 0 (by decide) (ci := 12) rfl rfl inuX12 tyX12 tyX12_ok nmX12 8 (by decide) wd_10_5 rfl rfl (by decide +kernel) (by show _ < _; simp only [List.length_cons, List.length_nil]; decide) rfl hdg kk
theorem gt_X12_93 (X : Cx p s m args meth c cc nL ret RX12 D (tyM b) A) (O : wO D 21 (gM b h) h u A H0 H locs) (hdg : decode cc pc = .ok (.getfield 93, 3)) (kk : W p l e R s m args below meth c H locs cells slots Q (F0 m (pc + 3) ls (.int (u 0 7) :: rest))) : W p l e R s m args below meth c H locs cells slots Q (F0 m pc ls (.ref (h 0) :: rest)) := q_get X O 0 (by decide) (ci := 12) rfl rfl inuX12 7 (by decide) wd_13_23 rfl rfl hdg kk
theorem pt_X12_93 {v : Int32} (X : Cx p s m args meth c cc nL ret RX12 D (tyM b) A) (O : wO D 21 (gM b h) h u A H0 H locs) (hdg : decode cc pc = .ok (.putfield 93, 3)) (kk : ∀ (H1 : Heap) (locs1 : List Loc), wO D 21 (gM b h) h (su u 0 7 v) A H0 H1 locs1 → W p l e R s m args below meth c H1 locs1 cells slots Q (F0 m (pc + 3) ls (rest))) : W p l e R s m args below meth c H locs cells slots Q (F0 m pc ls (.int v :: .ref (h 0) :: rest)) := q_put X O 0 (by decide) (ci := 12) rfl rfl inuX12 tyX12 tyX12_ok nmX12 7 (by decide) wd_13_23 rfl rfl (by decide +kernel) (by show _ < _; simp only [List.length_cons, List.length_nil]; decide) rfl hdg kk
theorem gt_X12_116 (X : Cx p s m args meth c cc nL ret RX12 D (tyM b) A) (O : wO D 21 (gM b h) h u A H0 H locs) (hdg : decode cc pc = .ok (.getfield 116, 3)) (kk : W p l e R s m args below meth c H locs cells slots Q (F0 m (pc + 3) ls (.int (u 0 17) :: rest))) : W p l e R s m args below meth c H locs cells slots Q (F0 m pc ls (.ref (h 0) :: rest)) := q_get X O 0 (by decide) (ci := 12) rfl rfl inuX12 17 (by decide) wd_22_4 rfl rfl hdg kk
theorem pt_X12_116 {v : Int32} (X : Cx p s m args meth c cc nL ret RX12 D (tyM b) A) (O : wO D 21 (gM b h) h u A H0 H locs) (hdg : decode cc pc = .ok (.putfield 116, 3)) (kk : ∀ (H1 : Heap) (locs1 : List Loc), wO D 21 (gM b h) h (su u 0 17 v) A H0 H1 locs1 → W p l e R s m args below meth c H1 locs1 cells slots Q (F0 m (pc + 3) ls (rest))) : W p l e R s m args below meth c H locs cells slots Q (F0 m pc ls (.int v :: .ref (h 0) :: rest)) := q_put X O 0 (by decide) (ci := 12) rfl rfl inuX12 tyX12 tyX12_ok nmX12 17 (by decide) wd_22_4 rfl rfl (by decide +kernel) (by show _ < _; simp only [List.length_cons, List.length_nil]; decide) rfl hdg kk
theorem gt_X12_161 (X : Cx p s m args meth c cc nL ret RX12 D (tyM b) A) (O : wO D 21 (gM b h) h u A H0 H locs) (hdg : decode cc pc = .ok (.getfield 161, 3)) (kk : W p l e R s m args below meth c H locs cells slots Q (F0 m (pc + 3) ls (.int (u 0 25) :: rest))) : W p l e R s m args below meth c H locs cells slots Q (F0 m pc ls (.ref (h 0) :: rest)) := q_get X O 0 (by decide) (ci := 12) rfl rfl inuX12 25 (by decide) wd_18_1 rfl rfl hdg kk
theorem pt_X12_161 {v : Int32} (X : Cx p s m args meth c cc nL ret RX12 D (tyM b) A) (O : wO D 21 (gM b h) h u A H0 H locs) (hdg : decode cc pc = .ok (.putfield 161, 3)) (kk : ∀ (H1 : Heap) (locs1 : List Loc), wO D 21 (gM b h) h (su u 0 25 v) A H0 H1 locs1 → W p l e R s m args below meth c H1 locs1 cells slots Q (F0 m (pc + 3) ls (rest))) : W p l e R s m args below meth c H locs cells slots Q (F0 m pc ls (.int v :: .ref (h 0) :: rest)) := q_put X O 0 (by decide) (ci := 12) rfl rfl inuX12 tyX12 tyX12_ok nmX12 25 (by decide) wd_18_1 rfl rfl (by decide +kernel) (by show _ < _; simp only [List.length_cons, List.length_nil]; decide) rfl hdg kk
theorem gt_X12_188 (X : Cx p s m args meth c cc nL ret RX12 D (tyM b) A) (O : wO D 21 (gM b h) h u A H0 H locs) (hdg : decode cc pc = .ok (.getfield 188, 3)) (kk : W p l e R s m args below meth c H locs cells slots Q (F0 m (pc + 3) ls (.int (u 0 16) :: rest))) : W p l e R s m args below meth c H locs cells slots Q (F0 m pc ls (.ref (h 0) :: rest)) := q_get X O 0 (by decide) (ci := 12) rfl rfl inuX12 16 (by decide) wd_20_17 rfl rfl hdg kk
theorem pt_X12_188 {v : Int32} (X : Cx p s m args meth c cc nL ret RX12 D (tyM b) A) (O : wO D 21 (gM b h) h u A H0 H locs) (hdg : decode cc pc = .ok (.putfield 188, 3)) (kk : ∀ (H1 : Heap) (locs1 : List Loc), wO D 21 (gM b h) h (su u 0 16 v) A H0 H1 locs1 → W p l e R s m args below meth c H1 locs1 cells slots Q (F0 m (pc + 3) ls (rest))) : W p l e R s m args below meth c H locs cells slots Q (F0 m pc ls (.int v :: .ref (h 0) :: rest)) := q_put X O 0 (by decide) (ci := 12) rfl rfl inuX12 tyX12 tyX12_ok nmX12 16 (by decide) wd_20_17 rfl rfl (by decide +kernel) (by show _ < _; simp only [List.length_cons, List.length_nil]; decide) rfl hdg kk
end FRM
end
section
theorem nb01 {v : Int32} (h : v = 0 ∨ v = 1) : narrow .boolean (.int v) = .int v := by
  rcases h with rfl | rfl <;> rfl
theorem ts_ne {x v : Int32} {k : Int} (hk : v.toInt = k) (h : ¬ x = v) : x.toInt ≠ k := fun e => h (Int32.toInt_inj.mp (by rw [e, hk]))
end
section
/-! Further rules: rows of references, calls by the receiver's class, calls of the class above, Math. -/
section FA
variable {p : Program} {l : Launch} {e : Env} {R : Room} {s : State} {m : MethodId} {args : Array Value} {below : List Frame} {meth : Method} {c : Code} {H : Heap} {locs : List Loc} {cells slots : Nat} {Q : State → Prop}
variable {cc : ByteArray} {pc nL : Nat} {ls : Array Slot} {rest st0 : List Value} {ret : Option FieldType} {own : String} {D : va_G} {tys : List (ClassId × FieldType)} {A : Nat → Prop} {H0 : Heap} {N : Nat} {G : Nat → (Nat → Int32) → va_E} {h : Nat → Nat} {u : St}
variable {y : MethodName} {cy : ByteArray} {ny : Nat} {ry : Option FieldType} {rm : Room} {As : List Value} {ci idx n : Nat} {Post : Int32 → St → Prop}
theorem q_ald (X : Cx p s m args meth c cc nL ret own D tys A) (O : wO D N G h u A H0 H locs) (k t0 : Nat) (hk : k < N) {n : Nat} {cA : ClassId} {C : String} {f : Nat → Option Nat} (hG : G k (u k) = .inl (cA, n, .inr (.inr (.inr (.inr f))))) (ht : tys[t0]? = some (cA, .object C)) {i : Int32} (hi : vp_in i n) {a : Nat} (hf : f i.toNatClampNeg = some a) (hdg : decode cc pc = .ok (.aaload, 1))
    (kk : W p l e R s m args below meth c H locs cells slots Q (F0 m (pc + 1) ls (.ref a :: rest))) : W p l e R s m args below meth c H locs cells slots Q (F0 m pc ls (.int i :: .ref (h k) :: rest)) := by
  obtain ⟨⟨hx, hb, hml, hown, hts⟩, hK, ⟨hNs, -⟩, -, -⟩ := X
  refine va_aldq hx hb hK O.1 k t0 ((wG_at hk).trans (by rw [hG])) ht hi hdg ?_
  rw [hf]
  exact kk
theorem q_alA (X : Cx p s m args meth c cc nL ret own D tys A) (O : wO D N G h u A H0 H locs) (k t0 : Nat) (hk : k < N) {n : Nat} {cA : ClassId} {f : Nat → Option Nat} (hG : G k (u k) = .inl (cA, n, .inr (.inr (.inr (.inr f))))) (ht : tys[t0]? = some (cA, .array .int)) {i : Int32} (hi : vp_in i n) {a : Nat} (hf : f i.toNatClampNeg = some a) (hdg : decode cc pc = .ok (.aaload, 1))
    (kk : W p l e R s m args below meth c H locs cells slots Q (F0 m (pc + 1) ls (.ref a :: rest))) : W p l e R s m args below meth c H locs cells slots Q (F0 m pc ls (.int i :: .ref (h k) :: rest)) := by
  obtain ⟨⟨hx, hb, hml, hown, hts⟩, hK, ⟨hNs, -⟩, -, -⟩ := X
  have ha : (wG N G h u)[k]? = some (h k, .inl (cA, n, .inr (.inr (.inr (.inr f))))) := (wG_at hk).trans (by rw [hG])
  have hlt : i.toNatClampNeg < n := Nat.not_le.mp fun q => hi (Or.inr q)
  refine W.aald (v := va_rf (f i.toNatClampNeg)) (ty := .array .int) hx hb (O.1 k _ ha) ((hK.2 t0 _ ht).1 n (fun j => va_rf (f j))) rfl (fun q => by cases q) (by show ¬ (i < 0 ∨ (arrV _ _ _).slots.size ≤ _); rw [arrV_size]; exact hi) (by show (arrV _ _ _).slots[_]? = _; rw [arrV_read _ _ hlt]) rfl rfl hdg ?_
  rw [hf]
  exact kk
theorem vin_lt {i : Int32} {n : Nat} (h : vp_in i n) : i.toNatClampNeg < n := Nat.not_le.mp fun q => h (Or.inr q)
/-- the words of a call that goes by the receiver's class C: the method that is named, x, was found in 'owner', the one that runs is y -/
def LkU (own : String) (idx : Nat) (C owner : String) (x y : MethodName) (cy : ByteArray) (ny : Nat) (ry : Option FieldType) (n : Nat) : Prop :=
  Cond.methodLink own idx x ∈ wsU ∧ Cond.sameMethod x.cls owner x.name x.desc ∈ wsU ∧ Cond.instanceMethod ⟨owner, x.name, x.desc⟩ ∈ wsU ∧ Cond.selects C x y ∈ wsU ∧ Cond.instanceMethod y ∈ wsU ∧ Cond.initialized y.cls ∈ wsU ∧ Cond.code y cy ny ry ∈ wsU ∧ (∃ (b0 : ByteArray) (m0 : Nat) (r0 : Option FieldType), Cond.code ⟨owner, x.name, x.desc⟩ b0 m0 r0 ∈ wsU) ∧ (owner ≠ "java/lang/invoke/MethodHandle" ∧ owner ≠ "java/lang/invoke/VarHandle" ∧ (parseMethodDescriptor x.desc).map (fun d => d.parameters.length) = some n)
set_option maxHeartbeats 4000000 in
theorem q_ciU {x : MethodName} {C owner : String} (X : Cx p s m args meth c cc nL ret own D tys A) (O : wO D N G h u A s.heap H locs) (hA : ∀ q, s.heap.size ≤ q → A q) (k : Nat) (M : CtI l y cy ny ry rm D tys N G h (.ref (h k) :: As) u Post) (L : LkU own idx C owner x y cy ny ry n) (hk : k < N) {fs : List Value} {q : vw_C} (hG : G k (u k) = .inr (ci, fs)) (hc : vwCl[ci]? = some q) (hq : q.1 = C) (hn : As.length = n) (hrc : rm.cells = 0) (hrs : rm.slots = 0) (hR : rm.frames + 1 ≤ R.frames ∧ 8 + (ny + 11) + rm.locals ≤ R.locals) (hrm : (rest.map fun v => v.category).sum ≤ 8) (hsz : ls.size = nL) (hcs : cells ≤ R.cells ∧ slots ≤ R.slots) (hst : st0 = As.reverse ++ .ref (h k) :: rest) (hdg : decode cc pc = .ok (.invokevirtual idx, 3))
    (kk : ∀ (r : Int32) (u1 : St) (H1 : Heap) (locs1 : List Loc), Post r u1 → wO D N G h u1 A s.heap H1 locs1 → W p l e R s m args below meth c H1 locs1 cells slots Q (F0 m (pc + 3) ls (.int r :: rest))) : W p l e R s m args below meth c H locs cells slots Q (F0 m pc ls st0) := by
  obtain ⟨S, hK, ⟨hNs, hSt⟩, -, -⟩ := X
  obtain ⟨w1, w2, w3, w4, w5, w6, w7, ⟨b0, m0, r0, w8⟩, hd⟩ := L
  have hF := wF_free O hA
  have hrv := va_recv hK O.1 hc ((wG_at hk).trans (by rw [hG]))
  rw [hq] at hrv
  have hT : GoodIn wsU (va_wsO own idx C owner x y (Cond.code y cy ny ry :: wsU)) := by
    intro w hw
    unfold va_wsO at hw
    rcases List.mem_append.mp hw with h1 | h1
    · simp only [List.mem_cons, List.not_mem_nil, or_false] at h1
      rcases h1 with rfl | rfl | rfl | rfl | rfl | rfl
      · exact ⟨w1, goodL _ w1⟩
      · exact ⟨w2, goodL _ w2⟩
      · exact ⟨w3, goodL _ w3⟩
      · exact ⟨w4, goodL _ w4⟩
      · exact ⟨w5, goodL _ w5⟩
      · exact ⟨w6, goodL _ w6⟩
    · exact gU w7 _ h1
  refine va_calli (va_runU (As := As) (rest := rest) (C := C) S (M H.size) (va_cwO n S.2.2.2.2 hT rfl hrc hrs w8 hd hR) ⟨cP_blind, hrv, fun U hU hW => ⟨rfl, by rw [hU], by rw [hU]; exact O.1, va_K.moved hW.alike hK, O.2.1.weaken (fun _ _ _ _ => trivial), hNs.warm hW, by rw [hU]; exact hSt.go O.2.2.2.1 hF hW.alike⟩⟩ rfl hn hsz hst (lv_room hrm) hdg ⟨by omega, by omega⟩) O.2.2 (fun q _ hq => hF q hq) hF (fun r u1 t H1 locs1 ht hvm hw hB hz1 hk1 hS => ?_)
  subst ht
  exact kk r u1 t.heap locs1 hw ⟨hB.1, hB.2.2.weaken (fun _ q _ hq => hF _ hq), hS⟩
/-- the words of a call of the class above -/
def LkSU (own : String) (idx : Nat) (y : MethodName) (cy : ByteArray) (ny : Nat) (ry : Option FieldType) (n : Nat) : Prop :=
  Cond.methodLink own idx y ∈ wsU ∧ Cond.sameMethod y.cls y.cls y.name y.desc ∈ wsU ∧ Cond.superclass own y.cls ∈ wsU ∧ Cond.instanceMethod y ∈ wsU ∧ Cond.initialized y.cls ∈ wsU ∧ Cond.code y cy ny ry ∈ wsU ∧ (y.name ≠ "<init>" ∧ (parseMethodDescriptor y.desc).map (fun d => d.parameters.length) = some n)
set_option maxHeartbeats 4000000 in
theorem q_ciSU (X : Cx p s m args meth c cc nL ret own D tys A) (O : wO D N G h u A s.heap H locs) (hA : ∀ q, s.heap.size ≤ q → A q) (k : Nat) (M : CtI l y cy ny ry rm D tys N G h (.ref (h k) :: As) u Post) (L : LkSU own idx y cy ny ry n) (hk : k < N) {fs : List Value} {q : vw_C} (hG : G k (u k) = .inr (ci, fs)) (hc : vwCl[ci]? = some q) (hn : As.length = n) (hrc : rm.cells = 0) (hrs : rm.slots = 0) (hR : rm.frames + 1 ≤ R.frames ∧ 8 + (ny + 11) + rm.locals ≤ R.locals) (hrm : (rest.map fun v => v.category).sum ≤ 8) (hsz : ls.size = nL) (hcs : cells ≤ R.cells ∧ slots ≤ R.slots) (hst : st0 = As.reverse ++ .ref (h k) :: rest) (hdg : decode cc pc = .ok (.invokespecial idx, 3))
    (kk : ∀ (r : Int32) (u1 : St) (H1 : Heap) (locs1 : List Loc), Post r u1 → wO D N G h u1 A s.heap H1 locs1 → W p l e R s m args below meth c H1 locs1 cells slots Q (F0 m (pc + 3) ls (.int r :: rest))) : W p l e R s m args below meth c H locs cells slots Q (F0 m pc ls st0) := by
  obtain ⟨S, hK, ⟨hNs, hSt⟩, -, -⟩ := X
  obtain ⟨w1, w2, w3, w4, w5, w6, hd⟩ := L
  have hF := wF_free O hA
  have hrv := va_recv hK O.1 hc ((wG_at hk).trans (by rw [hG]))
  have hT : GoodIn wsU (va_wsSU own idx y (Cond.code y cy ny ry :: wsU)) := by
    intro w hw
    unfold va_wsSU at hw
    rcases List.mem_append.mp hw with h1 | h1
    · simp only [List.mem_cons, List.not_mem_nil, or_false] at h1
      rcases h1 with rfl | rfl | rfl | rfl | rfl
      · exact ⟨w1, goodL _ w1⟩
      · exact ⟨w2, goodL _ w2⟩
      · exact ⟨w3, goodL _ w3⟩
      · exact ⟨w4, goodL _ w4⟩
      · exact ⟨w5, goodL _ w5⟩
    · exact gU w6 _ h1
  refine va_calli (va_runSU (As := As) (rest := rest) (C := q.1) (hK.1 ci q hc).2 S (M H.size) (va_cwSU n S.2.2.2.2 hT rfl hrc hrs hd hR) ⟨cP_blind, hrv, fun U hU hW => ⟨rfl, by rw [hU], by rw [hU]; exact O.1, va_K.moved hW.alike hK, O.2.1.weaken (fun _ _ _ _ => trivial), hNs.warm hW, by rw [hU]; exact hSt.go O.2.2.2.1 hF hW.alike⟩⟩ rfl hn hsz hst (lv_room hrm) hdg ⟨by omega, by omega⟩) O.2.2 (fun q _ hq => hF q hq) hF (fun r u1 t H1 locs1 ht hvm hw hB hz1 hk1 hS => ?_)
  subst ht
  exact kk r u1 t.heap locs1 hw ⟨hB.1, hB.2.2.weaken (fun _ q _ hq => hF _ hq), hS⟩
theorem q_max {x v : Int32} (X : Cx p s m args meth c cc nL ret own D tys A) (hsz : ls.size = nL) (w1 : Cond.methodLink own idx Lib.Math.max.name ∈ wsU) (w2 : Cond.static Lib.Math.max.name ∈ wsU) (w3 : Cond.initialized "java/lang/Math" ∈ wsU) (w4 : Cond.code Lib.Math.max.name Lib.Math.max.code 2 (some .int) ∈ wsU) (hR : 1 ≤ R.frames ∧ 21 ≤ R.locals) (hrm : (rest.map fun v => v.category).sum ≤ 8) (hcs : cells ≤ R.cells ∧ slots ≤ R.slots) (hdg : decode cc pc = .ok (.invokestatic idx, 3))
    (kk : W p l e R s m args below meth c H locs cells slots Q (F0 m (pc + 3) ls (.int (if x < v then v else x) :: rest))) : W p l e R s m args below meth c H locs cells slots Q (F0 m pc ls (.int v :: .int x :: rest)) := by
  obtain ⟨⟨hx, hb, hml, hown, hts⟩, -⟩ := X
  exact va_mmax hx hb (hml.trans hsz.symm) hown (hts _ w1) (hts _ w2) (hts _ w3) (hts _ w4) hR.1 (by omega) hcs.1 hcs.2 hdg kk
end FA
end
section
/-! A call of the class above, of a method that stands in the class above that one. -/
section FS
variable {p : Program} {l : Launch} {e : Env} {R : Room} {s : State} {m : MethodId} {args : Array Value} {below : List Frame} {meth : Method} {c : Code} {H : Heap} {locs : List Loc} {cells slots : Nat} {Q : State → Prop}
variable {cc : ByteArray} {pc nL : Nat} {ls : Array Slot} {rest st0 : List Value} {ret : Option FieldType} {own : String} {D : va_G} {tys : List (ClassId × FieldType)} {A : Nat → Prop} {H0 : Heap} {N : Nat} {G : Nat → (Nat → Int32) → va_E} {h : Nat → Nat} {u : St}
variable {x y : MethodName} {cy : ByteArray} {ny : Nat} {ry : Option FieldType} {rm : Room} {As : List Value} {ci idx n : Nat} {Post : Int32 → St → Prop}
def LkS2 (own : String) (idx : Nat) (x y : MethodName) (cy : ByteArray) (ny : Nat) (ry : Option FieldType) (n : Nat) : Prop :=
  Cond.methodLink own idx x ∈ wsU ∧ Cond.sameMethod x.cls y.cls x.name x.desc ∈ wsU ∧ Cond.superclass own x.cls ∈ wsU ∧ Cond.superclass x.cls y.cls ∈ wsU ∧ Cond.instanceMethod y ∈ wsU ∧ Cond.initialized y.cls ∈ wsU ∧ Cond.code y cy ny ry ∈ wsU ∧ (x.name = y.name ∧ x.desc = y.desc) ∧ (y.name ≠ "<init>" ∧ (parseMethodDescriptor y.desc).map (fun d => d.parameters.length) = some n)
set_option maxHeartbeats 4000000 in
theorem q_ciS2 (X : Cx p s m args meth c cc nL ret own D tys A) (O : wO D N G h u A s.heap H locs) (hA : ∀ q, s.heap.size ≤ q → A q) (k : Nat) (M : CtI l y cy ny ry rm D tys N G h (.ref (h k) :: As) u Post) (L : LkS2 own idx x y cy ny ry n) (hk : k < N) {fs : List Value} {q : vw_C} (hG : G k (u k) = .inr (ci, fs)) (hc : vwCl[ci]? = some q) (hn : As.length = n) (hrc : rm.cells = 0) (hrs : rm.slots = 0) (hR : rm.frames + 1 ≤ R.frames ∧ 8 + (ny + 11) + rm.locals ≤ R.locals) (hrm : (rest.map fun v => v.category).sum ≤ 8) (hsz : ls.size = nL) (hcs : cells ≤ R.cells ∧ slots ≤ R.slots) (hst : st0 = As.reverse ++ .ref (h k) :: rest) (hdg : decode cc pc = .ok (.invokespecial idx, 3))
    (kk : ∀ (r : Int32) (u1 : St) (H1 : Heap) (locs1 : List Loc), Post r u1 → wO D N G h u1 A s.heap H1 locs1 → W p l e R s m args below meth c H1 locs1 cells slots Q (F0 m (pc + 3) ls (.int r :: rest))) : W p l e R s m args below meth c H locs cells slots Q (F0 m pc ls st0) := by
  obtain ⟨S, hK, ⟨hNs, hSt⟩, -, -⟩ := X
  obtain ⟨w1, w2, w3, w4, w5, w6, w7, ⟨ex, ed⟩, hd⟩ := L
  have hF := wF_free O hA
  have hts := S.2.2.2.2
  have hrv := va_recv hK O.1 hc ((wG_at hk).trans (by rw [hG]))
  obtain ⟨cellB, hcB, hoB, hclB⟩ := hrv
  obtain ⟨hfc, kB, hkB, -⟩ := (hK.1 ci q hc).2
  rw [← Option.some.inj (hclB.symm.trans hfc)] at hkB
  have hpc : ∀ U : State, U.heap = H → s.WarmedH U.vm → va_Pc (.ref (h k) :: As) (cP D tys N G h u H.size) (Value.ref (h k) :: As).toArray U := fun U hU hW => ⟨rfl, by rw [hU], by rw [hU]; exact O.1, va_K.moved hW.alike hK, O.2.1.weaken (fun _ _ _ _ => trivial), hNs.warm hW, by rw [hU]; exact hSt.go O.2.2.2.1 hF hW.alike⟩
  have hback : Back l R p e below s args y 3 8 (PreOf R 0 0 (va_Pc (.ref (h k) :: As) (cP D tys N G h u H.size))) (PostOf (va_Qi Post (cB D tys N G h (va_A (wG N G h u) H.size)) (va_A (wG N G h u) H.size)) 0 0 (va_A (wG N G h u) H.size)) :=
    back_of (bytes := cy) (maxL := ny) (ret := ry) (M H.size) cP_blind hrc hrs hR.1 hR.2 (pay_in hts (gU w7)) List.mem_cons_self (fun a' U hW => word_at hW (Or.inl (by first | rfl | simp [Cond.onTables, Cond.keeps, Cond.steady])) (hts _ w6))
  have hrun : va_Run p l e R s m args below meth c H locs cells slots 0 0 (F0 m pc ls st0) rest (va_Qi Post (cB D tys N G h (va_A (wG N G h u) H.size)) (va_A (wG N G h u) H.size) (Value.ref (h k) :: As).toArray) (va_A (wG N G h u) H.size) := by
    intro T hT Xs
    obtain ⟨mk, methM, hnamed, hmethM, hstM, habM⟩ := Cond.instanceMethod_spec (hts _ w5)
    obtain ⟨methM', cM, hmethM', -, -, -, -, -, -, hsigM⟩ := Cond.code_spec hnamed (hts _ w7)
    cases hmethM.symm.trans hmethM'
    obtain ⟨ps, dk, kp, hps, hdk, hkp, hsuper, -, -, hnid⟩ := Cond.superclass_spec S.2.2.2.1 (hts _ w3)
    obtain ⟨gs, dk2, kp2, hgs, hdk2, hkp2, hsuper2, -, -, -⟩ := Cond.superclass_spec hps (hts _ w4)
    have hgm : gs = mk.cls := Option.some.inj (hgs.symm.trans (findClass_of_methodNamed hnamed))
    have hsub : s.vm.isSubclass ps mk.cls = true := by
      have hlt : 0 < s.vm.classes.size := Nat.lt_of_le_of_lt (Nat.zero_le _) (Array.getElem?_eq_some_iff.mp hdk2).1
      obtain ⟨z, hz⟩ : ∃ z, s.vm.classes.size = z + 1 := ⟨s.vm.classes.size - 1, by omega⟩
      unfold Vm.isSubclass
      rw [hz]
      simp only [Vm.isSubclassAux, hdk2, hsuper2, hgm, beq_self_eq_true, Bool.true_or, Bool.or_true]
    have hn0 : s.methodNamed? ⟨y.cls, x.name, x.desc⟩ = some mk := by rw [ex, ed]; exact hnamed
    have hlen : As.length = methM.sig.parameters.length := by
      have h2 := hd.2
      rw [hsigM] at h2
      exact hn.trans (Option.some.inj h2).symm
    obtain ⟨vm₁, X₁, hstep₁⟩ := Xs.invokespecialUp S.1 S.2.2.2.1 (hts _ w1) (hts _ w2) hn0 hmethM hstM habM (by rw [ex]; exact hd.1) hdk hnid hps hsuper hsub (a := h k) (cell := cellB) (by rw [hT]; exact hcB)
      (fun z hz => by rw [hz] at hoB; cases hoB) hkB (g := F0 m pc ls st0) rfl (argsL := As) (rest := rest) hlen hst (by rw [S.2.1]; exact hdg)
    obtain ⟨v, ⟨U', l2, c2, s2⟩, X', ⟨g', mk', t, L, e1, e2, hq, h1, hL, h2, h3⟩, hsteps⟩ := hback m meth c ⟨T.setVm vm₁, locs, cells, slots⟩ { (F0 m pc ls st0) with stack := rest } (.invokespecial idx) mk (Value.ref (h k) :: As).toArray X₁ rfl (hsz.trans S.2.2.1.symm) (by rw [S.2.1]; exact hdg) (lv_room hrm) (X₁.named hnamed) ⟨hcs.1, hcs.2, hpc (T.setVm vm₁) hT X₁.warmed⟩
    dsimp only [Pt.U, Pt.locs, Pt.cells, Pt.slots] at X' e1 e2 h1 h2 h3 hsteps
    subst h1; subst h2; subst h3
    exact ⟨v, (T.setVm vm₁).calling g' mk' (Value.ref (h k) :: As).toArray, t, U', L, hT, X', hL, e1, e2, hq, fun target hh => hstep₁ _ (by rw [doInvoke_state]; exact hsteps.trans hh)⟩
  refine va_calli hrun O.2.2 (fun q _ hq => hF q hq) hF (fun r u1 t H1 locs1 ht hvm hw hB hz1 hk1 hS => ?_)
  subst ht
  exact kk r u1 t.heap locs1 hw ⟨hB.1, hB.2.2.weaken (fun _ q _ hq => hF _ hq), hS⟩
end FS
end
section
/-! the class's cells: 0 the object; 1 yard, 2 its measures (rows 3, 4, 5), 6 laid, 7 ahead, 8 behind, 9 lengths, 10 weights, 11 needs; 12 plan, 13 blockBits, 14 costBehind, 15 ordersBehind, 16 bestRow, 17 sometimesBehind; 18 line, 19 row; 20 history, 21 .. 24 its rows; 25 acting, 26 bodies; 27 kinds, 28 .. 32; 33 sheets, 34 + 2 i sheet i, 35 + 2 i its numbers -/
def gF0 (b : Nat → ClassId) (h : Nat → Nat) (k : Nat) (r : Nat → Int32) : va_E := match k with
  | 0 => .inr (11, [.ref (h 1), .ref (h 12), .ref (h 18), .ref (h 20), .ref (h 25), .ref (h 27), .ref (h 33), .int (r 7)])
  | 1 => .inr (10, [.ref (h 2), .ref (h 6), .ref (h 7), .ref (h 8), .ref (h 9), .ref (h 10), .ref (h 11), .int (r 7), .int (r 8), .int (r 9)])
  | 2 => .inl (b 2, 3, .inr (.inr (.inr (.inr (fun i => if i < 3 then some (h (3 + i)) else none)))))
  | 3 => .inl (b 0, 12, .inl r)
  | 4 => .inl (b 0, 12, .inl r)
  | 5 => .inl (b 0, 12, .inl r)
  | 6 => .inl (b 0, 12, .inl r)
  | 7 => .inl (b 0, 12, .inl r)
  | 8 => .inl (b 0, 12, .inl r)
  | 9 => .inl (b 0, 128, .inl r)
  | 10 => .inl (b 0, 128, .inl r)
  | 11 => .inl (b 0, 128, .inl r)
  | 12 => .inr (7, [.ref (h 13), .int (r 1), .int (r 2), .ref (h 14), .ref (h 15), .ref (h 16), .int (r 6), .ref (h 17), .int (r 8)])
  | 13 => .inl (b 0, 12, .inl r)
  | 14 => .inl (b 0, 4096, .inl r)
  | 15 => .inl (b 0, 4096, .inl r)
  | 16 => .inl (b 0, 12, .inl r)
  | 17 => .inl (b 0, 12, .inl r)
  | 18 => .inr (6, [.ref (h 19), .int (r 1)])
  | 19 => .inl (b 0, 12, .inl r)
  | 20 => .inr (2, [.ref (h 21), .ref (h 22), .ref (h 23), .ref (h 24), .int (r 4), .int (r 5)])
  | 21 => .inl (b 0, 12, .inl r)
  | 22 => .inl (b 0, 12, .inl r)
  | 23 => .inl (b 0, 12, .inl r)
  | 24 => .inl (b 0, 12, .inl r)
  | 25 => .inr (0, [.ref (h 26), .int (r 1), .int (r 2), .int (r 3), .int (r 4), .int (r 5)])
  | 26 => .inl (b 0, 50, .inl r)
  | 27 => .inl (b 3, 5, .inr (.inr (.inr (.inr (fun i => if i < 5 then some (h (28 + i)) else none)))))
  | 28 => .inr (4, [])
  | 29 => .inr (9, [])
  | 30 => .inr (3, [])
  | 31 => .inr (1, [])
  | 32 => .inr (5, [])
  | _ => .inl (b 4, 6, .inr (.inr (.inr (.inr (fun i => if i < 6 then some (h (34 + 2 * i)) else none)))))
def gF (b : Nat → ClassId) (h : Nat → Nat) (k : Nat) (r : Nat → Int32) : va_E := if k < 34 then gF0 b h k r else if k % 2 = 0 then .inr (8, [.ref (h (k + 1)), .int (r 1), .int (r 2)]) else .inl (b 0, 20, .inl r)
abbrev tyF (b : Nat → ClassId) : List (ClassId × FieldType) := [(b 0, .int), (b 2, .array .int), (b 3, .object RX4), (b 4, .object RX8)]
theorem gF_sh {b : Nat → ClassId} {h : Nat → Nat} {sk : Nat} (hs : sk < 6) (r : Nat → Int32) : gF b h (34 + 2 * sk) r = .inr (8, [.ref (h (35 + 2 * sk)), .int (r 1), .int (r 2)]) := by
  unfold gF
  rw [if_neg (by omega), if_pos (by omega), show 34 + 2 * sk + 1 = 35 + 2 * sk by omega]
theorem gF_nu {b : Nat → ClassId} {h : Nat → Nat} {sk : Nat} (hs : sk < 6) (r : Nat → Int32) : gF b h (35 + 2 * sk) r = .inl (b 0, 20, .inl r) := by
  unfold gF
  rw [if_neg (by omega), if_neg (by omega)]
theorem gF_me {b : Nat → ClassId} {h : Nat → Nat} {w : Nat} (hw : w < 3) (r : Nat → Int32) : gF b h (3 + w) r = .inl (b 0, 12, .inl r) := by
  rcases (show w = 0 ∨ w = 1 ∨ w = 2 by omega) with rfl | rfl | rfl <;> rfl
theorem sh_lt {sk : Nat} (hs : sk < 6) : 34 + 2 * sk < 46 := by omega
theorem nu_lt {sk : Nat} (hs : sk < 6) : 35 + 2 * sk < 46 := by omega
theorem me_lt {w : Nat} (hs : w < 3) : 3 + w < 46 := by omega
theorem me_f {h : Nat → Nat} {i : Int32} (w k : Nat) (e : i.toNatClampNeg = w) (hw : w < 3) (hk : 3 + w = k) : (fun i => if i < 3 then some (h (3 + i)) else none) i.toNatClampNeg = some (h k) := by
  subst hk
  show (if _ < 3 then _ else _) = _
  rw [e, if_pos hw]
theorem me_s {h : Nat → Nat} {i : Int32} (hi : vp_in i 3) : (fun i => if i < 3 then some (h (3 + i)) else none) i.toNatClampNeg = some (h (3 + i.toNatClampNeg)) := if_pos (vin_lt hi)
theorem kd_s {h : Nat → Nat} {i : Int32} (hi : vp_in i 5) : (fun i => if i < 5 then some (h (28 + i)) else none) i.toNatClampNeg = some (h (28 + i.toNatClampNeg)) := if_pos (vin_lt hi)
theorem sh_s {h : Nat → Nat} {i : Int32} (hi : vp_in i 6) : (fun i => if i < 6 then some (h (34 + 2 * i)) else none) i.toNatClampNeg = some (h (34 + 2 * i.toNatClampNeg)) := if_pos (vin_lt hi)
theorem kd5 {r : Int32} (hi : vp_in r 5) : r = 0 ∨ r = 1 ∨ r = 2 ∨ r = 3 ∨ r = 4 := by
  obtain ⟨j, hj, rfl⟩ := vp_in_of hi (by decide)
  rcases (show j = 0 ∨ j = 1 ∨ j = 2 ∨ j = 3 ∨ j = 4 by omega) with rfl | rfl | rfl | rfl | rfl
  · exact Or.inl rfl
  · exact Or.inr (Or.inl rfl)
  · exact Or.inr (Or.inr (Or.inl rfl))
  · exact Or.inr (Or.inr (Or.inr (Or.inl rfl)))
  · exact Or.inr (Or.inr (Or.inr (Or.inr rfl)))
theorem kd_0 : 28 + Int32.toNatClampNeg 0 = 28 := by decide
theorem kd_1 : 28 + Int32.toNatClampNeg 1 = 29 := by decide
theorem kd_2 : 28 + Int32.toNatClampNeg 2 = 30 := by decide
theorem kd_3 : 28 + Int32.toNatClampNeg 3 = 31 := by decide
theorem kd_4 : 28 + Int32.toNatClampNeg 4 = 32 := by decide
section FRF
variable {p : Program} {l : Launch} {e : Env} {R : Room} {s : State} {m : MethodId} {args : Array Value} {below : List Frame} {meth : Method} {c : Code} {H : Heap} {locs : List Loc} {cells slots : Nat} {Q : State → Prop}
variable {cc : ByteArray} {pc nL : Nat} {ls : Array Slot} {rest : List Value} {ret : Option FieldType} {D : va_G} {A : Nat → Prop} {H0 : Heap} {b : Nat → ClassId} {h : Nat → Nat} {u : St}
theorem gt_X0_9 (X : Cx p s m args meth c cc nL ret RX0 D (tyF b) A) (O : wO D 46 (gF b h) h u A H0 H locs) (hdg : decode cc pc = .ok (.getfield 9, 3)) (kk : W p l e R s m args below meth c H locs cells slots Q (F0 m (pc + 3) ls (.ref (h 26) :: rest))) : W p l e R s m args below meth c H locs cells slots Q (F0 m pc ls (.ref (h 25) :: rest)) := q_get X O 25 (by decide) (ci := 0) rfl rfl inuX0 0 (by decide) wd_4_18 rfl rfl hdg kk
theorem gt_X0_15 (X : Cx p s m args meth c cc nL ret RX0 D (tyF b) A) (O : wO D 46 (gF b h) h u A H0 H locs) (hdg : decode cc pc = .ok (.getfield 15, 3)) (kk : W p l e R s m args below meth c H locs cells slots Q (F0 m (pc + 3) ls (.int (u 25 1) :: rest))) : W p l e R s m args below meth c H locs cells slots Q (F0 m pc ls (.ref (h 25) :: rest)) := q_get X O 25 (by decide) (ci := 0) rfl rfl inuX0 1 (by decide) wd_20_8 rfl rfl hdg kk
theorem pt_X0_15 {v : Int32} (X : Cx p s m args meth c cc nL ret RX0 D (tyF b) A) (O : wO D 46 (gF b h) h u A H0 H locs) (hdg : decode cc pc = .ok (.putfield 15, 3)) (kk : ∀ (H1 : Heap) (locs1 : List Loc), wO D 46 (gF b h) h (su u 25 1 v) A H0 H1 locs1 → W p l e R s m args below meth c H1 locs1 cells slots Q (F0 m (pc + 3) ls (rest))) : W p l e R s m args below meth c H locs cells slots Q (F0 m pc ls (.int v :: .ref (h 25) :: rest)) := q_put X O 25 (by decide) (ci := 0) rfl rfl inuX0 tyX0 tyX0_ok nmX0 1 (by decide) wd_20_8 rfl rfl (by decide +kernel) (by show _ < _; simp only [List.length_cons, List.length_nil]; decide) rfl hdg kk
theorem gt_X0_25 (X : Cx p s m args meth c cc nL ret RX0 D (tyF b) A) (O : wO D 46 (gF b h) h u A H0 H locs) (hdg : decode cc pc = .ok (.getfield 25, 3)) (kk : W p l e R s m args below meth c H locs cells slots Q (F0 m (pc + 3) ls (.int (u 25 2) :: rest))) : W p l e R s m args below meth c H locs cells slots Q (F0 m pc ls (.ref (h 25) :: rest)) := q_get X O 25 (by decide) (ci := 0) rfl rfl inuX0 2 (by decide) wd_31_22 rfl rfl hdg kk
theorem pt_X0_25 {v : Int32} (X : Cx p s m args meth c cc nL ret RX0 D (tyF b) A) (O : wO D 46 (gF b h) h u A H0 H locs) (hdg : decode cc pc = .ok (.putfield 25, 3)) (kk : ∀ (H1 : Heap) (locs1 : List Loc), wO D 46 (gF b h) h (su u 25 2 v) A H0 H1 locs1 → W p l e R s m args below meth c H1 locs1 cells slots Q (F0 m (pc + 3) ls (rest))) : W p l e R s m args below meth c H locs cells slots Q (F0 m pc ls (.int v :: .ref (h 25) :: rest)) := q_put X O 25 (by decide) (ci := 0) rfl rfl inuX0 tyX0 tyX0_ok nmX0 2 (by decide) wd_31_22 rfl rfl (by decide +kernel) (by show _ < _; simp only [List.length_cons, List.length_nil]; decide) rfl hdg kk
theorem gt_X0_28 (X : Cx p s m args meth c cc nL ret RX0 D (tyF b) A) (O : wO D 46 (gF b h) h u A H0 H locs) (hdg : decode cc pc = .ok (.getfield 28, 3)) (kk : W p l e R s m args below meth c H locs cells slots Q (F0 m (pc + 3) ls (.int (u 25 3) :: rest))) : W p l e R s m args below meth c H locs cells slots Q (F0 m pc ls (.ref (h 25) :: rest)) := q_get X O 25 (by decide) (ci := 0) rfl rfl inuX0 3 (by decide) wd_31_23 rfl rfl hdg kk
theorem pt_X0_28 {v : Int32} (X : Cx p s m args meth c cc nL ret RX0 D (tyF b) A) (O : wO D 46 (gF b h) h u A H0 H locs) (hdg : decode cc pc = .ok (.putfield 28, 3)) (kk : ∀ (H1 : Heap) (locs1 : List Loc), wO D 46 (gF b h) h (su u 25 3 v) A H0 H1 locs1 → W p l e R s m args below meth c H1 locs1 cells slots Q (F0 m (pc + 3) ls (rest))) : W p l e R s m args below meth c H locs cells slots Q (F0 m pc ls (.int v :: .ref (h 25) :: rest)) := q_put X O 25 (by decide) (ci := 0) rfl rfl inuX0 tyX0 tyX0_ok nmX0 3 (by decide) wd_31_23 rfl rfl (by decide +kernel) (by show _ < _; simp only [List.length_cons, List.length_nil]; decide) rfl hdg kk
theorem gt_X0_31 (X : Cx p s m args meth c cc nL ret RX0 D (tyF b) A) (O : wO D 46 (gF b h) h u A H0 H locs) (hdg : decode cc pc = .ok (.getfield 31, 3)) (kk : W p l e R s m args below meth c H locs cells slots Q (F0 m (pc + 3) ls (.int (u 25 4) :: rest))) : W p l e R s m args below meth c H locs cells slots Q (F0 m pc ls (.ref (h 25) :: rest)) := q_get X O 25 (by decide) (ci := 0) rfl rfl inuX0 4 (by decide) wd_32_0 rfl rfl hdg kk
theorem pt_X0_31 {v : Int32} (X : Cx p s m args meth c cc nL ret RX0 D (tyF b) A) (O : wO D 46 (gF b h) h u A H0 H locs) (hdg : decode cc pc = .ok (.putfield 31, 3)) (kk : ∀ (H1 : Heap) (locs1 : List Loc), wO D 46 (gF b h) h (su u 25 4 v) A H0 H1 locs1 → W p l e R s m args below meth c H1 locs1 cells slots Q (F0 m (pc + 3) ls (rest))) : W p l e R s m args below meth c H locs cells slots Q (F0 m pc ls (.int v :: .ref (h 25) :: rest)) := q_put X O 25 (by decide) (ci := 0) rfl rfl inuX0 tyX0 tyX0_ok nmX0 4 (by decide) wd_32_0 rfl rfl (by decide +kernel) (by show _ < _; simp only [List.length_cons, List.length_nil]; decide) rfl hdg kk
theorem gt_X0_43 (X : Cx p s m args meth c cc nL ret RX0 D (tyF b) A) (O : wO D 46 (gF b h) h u A H0 H locs) (hdg : decode cc pc = .ok (.getfield 43, 3)) (kk : W p l e R s m args below meth c H locs cells slots Q (F0 m (pc + 3) ls (.int (u 25 5) :: rest))) : W p l e R s m args below meth c H locs cells slots Q (F0 m pc ls (.ref (h 25) :: rest)) := q_get X O 25 (by decide) (ci := 0) rfl rfl inuX0 5 (by decide) wd_32_1 rfl rfl hdg kk
theorem pt_X0_43 {v : Int32} (X : Cx p s m args meth c cc nL ret RX0 D (tyF b) A) (O : wO D 46 (gF b h) h u A H0 H locs) (hdg : decode cc pc = .ok (.putfield 43, 3)) (kk : ∀ (H1 : Heap) (locs1 : List Loc), wO D 46 (gF b h) h (su u 25 5 v) A H0 H1 locs1 → W p l e R s m args below meth c H1 locs1 cells slots Q (F0 m (pc + 3) ls (rest))) : W p l e R s m args below meth c H locs cells slots Q (F0 m pc ls (.int v :: .ref (h 25) :: rest)) := q_put X O 25 (by decide) (ci := 0) rfl rfl inuX0 tyX0 tyX0_ok nmX0 5 (by decide) wd_32_1 rfl rfl (by decide +kernel) (by show _ < _; simp only [List.length_cons, List.length_nil]; decide) rfl hdg kk
theorem gt_X10_13 (X : Cx p s m args meth c cc nL ret RX10 D (tyF b) A) (O : wO D 46 (gF b h) h u A H0 H locs) (hdg : decode cc pc = .ok (.getfield 13, 3)) (kk : W p l e R s m args below meth c H locs cells slots Q (F0 m (pc + 3) ls (.ref (h 2) :: rest))) : W p l e R s m args below meth c H locs cells slots Q (F0 m pc ls (.ref (h 1) :: rest)) := q_get X O 1 (by decide) (ci := 10) rfl rfl inuX10 0 (by decide) wd_3_10 rfl rfl hdg kk
theorem gt_X10_16 (X : Cx p s m args meth c cc nL ret RX10 D (tyF b) A) (O : wO D 46 (gF b h) h u A H0 H locs) (hdg : decode cc pc = .ok (.getfield 16, 3)) (kk : W p l e R s m args below meth c H locs cells slots Q (F0 m (pc + 3) ls (.ref (h 6) :: rest))) : W p l e R s m args below meth c H locs cells slots Q (F0 m pc ls (.ref (h 1) :: rest)) := q_get X O 1 (by decide) (ci := 10) rfl rfl inuX10 1 (by decide) wd_3_11 rfl rfl hdg kk
theorem gt_X10_20 (X : Cx p s m args meth c cc nL ret RX10 D (tyF b) A) (O : wO D 46 (gF b h) h u A H0 H locs) (hdg : decode cc pc = .ok (.getfield 20, 3)) (kk : W p l e R s m args below meth c H locs cells slots Q (F0 m (pc + 3) ls (.ref (h 7) :: rest))) : W p l e R s m args below meth c H locs cells slots Q (F0 m pc ls (.ref (h 1) :: rest)) := q_get X O 1 (by decide) (ci := 10) rfl rfl inuX10 2 (by decide) wd_3_12 rfl rfl hdg kk
theorem gt_X10_23 (X : Cx p s m args meth c cc nL ret RX10 D (tyF b) A) (O : wO D 46 (gF b h) h u A H0 H locs) (hdg : decode cc pc = .ok (.getfield 23, 3)) (kk : W p l e R s m args below meth c H locs cells slots Q (F0 m (pc + 3) ls (.ref (h 8) :: rest))) : W p l e R s m args below meth c H locs cells slots Q (F0 m pc ls (.ref (h 1) :: rest)) := q_get X O 1 (by decide) (ci := 10) rfl rfl inuX10 3 (by decide) wd_3_13 rfl rfl hdg kk
theorem gt_X10_26 (X : Cx p s m args meth c cc nL ret RX10 D (tyF b) A) (O : wO D 46 (gF b h) h u A H0 H locs) (hdg : decode cc pc = .ok (.getfield 26, 3)) (kk : W p l e R s m args below meth c H locs cells slots Q (F0 m (pc + 3) ls (.ref (h 9) :: rest))) : W p l e R s m args below meth c H locs cells slots Q (F0 m pc ls (.ref (h 1) :: rest)) := q_get X O 1 (by decide) (ci := 10) rfl rfl inuX10 4 (by decide) wd_3_14 rfl rfl hdg kk
theorem gt_X10_29 (X : Cx p s m args meth c cc nL ret RX10 D (tyF b) A) (O : wO D 46 (gF b h) h u A H0 H locs) (hdg : decode cc pc = .ok (.getfield 29, 3)) (kk : W p l e R s m args below meth c H locs cells slots Q (F0 m (pc + 3) ls (.ref (h 10) :: rest))) : W p l e R s m args below meth c H locs cells slots Q (F0 m pc ls (.ref (h 1) :: rest)) := q_get X O 1 (by decide) (ci := 10) rfl rfl inuX10 5 (by decide) wd_3_15 rfl rfl hdg kk
theorem gt_X10_32 (X : Cx p s m args meth c cc nL ret RX10 D (tyF b) A) (O : wO D 46 (gF b h) h u A H0 H locs) (hdg : decode cc pc = .ok (.getfield 32, 3)) (kk : W p l e R s m args below meth c H locs cells slots Q (F0 m (pc + 3) ls (.ref (h 11) :: rest))) : W p l e R s m args below meth c H locs cells slots Q (F0 m pc ls (.ref (h 1) :: rest)) := q_get X O 1 (by decide) (ci := 10) rfl rfl inuX10 6 (by decide) wd_3_16 rfl rfl hdg kk
theorem gt_X10_41 (X : Cx p s m args meth c cc nL ret RX10 D (tyF b) A) (O : wO D 46 (gF b h) h u A H0 H locs) (hdg : decode cc pc = .ok (.getfield 41, 3)) (kk : W p l e R s m args below meth c H locs cells slots Q (F0 m (pc + 3) ls (.int (u 1 7) :: rest))) : W p l e R s m args below meth c H locs cells slots Q (F0 m pc ls (.ref (h 1) :: rest)) := q_get X O 1 (by decide) (ci := 10) rfl rfl inuX10 7 (by decide) wd_7_5 rfl rfl hdg kk
theorem pt_X10_41 {v : Int32} (X : Cx p s m args meth c cc nL ret RX10 D (tyF b) A) (O : wO D 46 (gF b h) h u A H0 H locs) (hdg : decode cc pc = .ok (.putfield 41, 3)) (kk : ∀ (H1 : Heap) (locs1 : List Loc), wO D 46 (gF b h) h (su u 1 7 v) A H0 H1 locs1 → W p l e R s m args below meth c H1 locs1 cells slots Q (F0 m (pc + 3) ls (rest))) : W p l e R s m args below meth c H locs cells slots Q (F0 m pc ls (.int v :: .ref (h 1) :: rest)) := q_put X O 1 (by decide) (ci := 10) rfl rfl inuX10 tyX10 tyX10_ok nmX10 7 (by decide) wd_7_5 rfl rfl (by decide +kernel) (by show _ < _; simp only [List.length_cons, List.length_nil]; decide) rfl hdg kk
theorem gt_X10_45 (X : Cx p s m args meth c cc nL ret RX10 D (tyF b) A) (O : wO D 46 (gF b h) h u A H0 H locs) (hdg : decode cc pc = .ok (.getfield 45, 3)) (kk : W p l e R s m args below meth c H locs cells slots Q (F0 m (pc + 3) ls (.int (u 1 8) :: rest))) : W p l e R s m args below meth c H locs cells slots Q (F0 m pc ls (.ref (h 1) :: rest)) := q_get X O 1 (by decide) (ci := 10) rfl rfl inuX10 8 (by decide) wd_12_2 rfl rfl hdg kk
theorem pt_X10_45 {v : Int32} (X : Cx p s m args meth c cc nL ret RX10 D (tyF b) A) (O : wO D 46 (gF b h) h u A H0 H locs) (hdg : decode cc pc = .ok (.putfield 45, 3)) (kk : ∀ (H1 : Heap) (locs1 : List Loc), wO D 46 (gF b h) h (su u 1 8 v) A H0 H1 locs1 → W p l e R s m args below meth c H1 locs1 cells slots Q (F0 m (pc + 3) ls (rest))) : W p l e R s m args below meth c H locs cells slots Q (F0 m pc ls (.int v :: .ref (h 1) :: rest)) := q_put X O 1 (by decide) (ci := 10) rfl rfl inuX10 tyX10 tyX10_ok nmX10 8 (by decide) wd_12_2 rfl rfl (by decide +kernel) (by show _ < _; simp only [List.length_cons, List.length_nil]; decide) rfl hdg kk
theorem gt_X10_48 (X : Cx p s m args meth c cc nL ret RX10 D (tyF b) A) (O : wO D 46 (gF b h) h u A H0 H locs) (hdg : decode cc pc = .ok (.getfield 48, 3)) (kk : W p l e R s m args below meth c H locs cells slots Q (F0 m (pc + 3) ls (.int (u 1 9) :: rest))) : W p l e R s m args below meth c H locs cells slots Q (F0 m pc ls (.ref (h 1) :: rest)) := q_get X O 1 (by decide) (ci := 10) rfl rfl inuX10 9 (by decide) wd_7_18 rfl rfl hdg kk
theorem pt_X10_48 {v : Int32} (X : Cx p s m args meth c cc nL ret RX10 D (tyF b) A) (O : wO D 46 (gF b h) h u A H0 H locs) (hdg : decode cc pc = .ok (.putfield 48, 3)) (kk : ∀ (H1 : Heap) (locs1 : List Loc), wO D 46 (gF b h) h (su u 1 9 v) A H0 H1 locs1 → W p l e R s m args below meth c H1 locs1 cells slots Q (F0 m (pc + 3) ls (rest))) : W p l e R s m args below meth c H locs cells slots Q (F0 m pc ls (.int v :: .ref (h 1) :: rest)) := q_put X O 1 (by decide) (ci := 10) rfl rfl inuX10 tyX10 tyX10_ok nmX10 9 (by decide) wd_7_18 rfl rfl (by decide +kernel) (by show _ < _; simp only [List.length_cons, List.length_nil]; decide) rfl hdg kk
theorem gt_X11_10 (X : Cx p s m args meth c cc nL ret RX11 D (tyF b) A) (O : wO D 46 (gF b h) h u A H0 H locs) (hdg : decode cc pc = .ok (.getfield 10, 3)) (kk : W p l e R s m args below meth c H locs cells slots Q (F0 m (pc + 3) ls (.ref (h 1) :: rest))) : W p l e R s m args below meth c H locs cells slots Q (F0 m pc ls (.ref (h 0) :: rest)) := q_get X O 0 (by decide) (ci := 11) rfl rfl inuX11 0 (by decide) wd_1_15 rfl rfl hdg kk
theorem gt_X11_19 (X : Cx p s m args meth c cc nL ret RX11 D (tyF b) A) (O : wO D 46 (gF b h) h u A H0 H locs) (hdg : decode cc pc = .ok (.getfield 19, 3)) (kk : W p l e R s m args below meth c H locs cells slots Q (F0 m (pc + 3) ls (.ref (h 12) :: rest))) : W p l e R s m args below meth c H locs cells slots Q (F0 m pc ls (.ref (h 0) :: rest)) := q_get X O 0 (by decide) (ci := 11) rfl rfl inuX11 1 (by decide) wd_1_19 rfl rfl hdg kk
theorem gt_X11_26 (X : Cx p s m args meth c cc nL ret RX11 D (tyF b) A) (O : wO D 46 (gF b h) h u A H0 H locs) (hdg : decode cc pc = .ok (.getfield 26, 3)) (kk : W p l e R s m args below meth c H locs cells slots Q (F0 m (pc + 3) ls (.ref (h 18) :: rest))) : W p l e R s m args below meth c H locs cells slots Q (F0 m pc ls (.ref (h 0) :: rest)) := q_get X O 0 (by decide) (ci := 11) rfl rfl inuX11 2 (by decide) wd_1_23 rfl rfl hdg kk
theorem gt_X11_33 (X : Cx p s m args meth c cc nL ret RX11 D (tyF b) A) (O : wO D 46 (gF b h) h u A H0 H locs) (hdg : decode cc pc = .ok (.getfield 33, 3)) (kk : W p l e R s m args below meth c H locs cells slots Q (F0 m (pc + 3) ls (.ref (h 20) :: rest))) : W p l e R s m args below meth c H locs cells slots Q (F0 m pc ls (.ref (h 0) :: rest)) := q_get X O 0 (by decide) (ci := 11) rfl rfl inuX11 3 (by decide) wd_2_3 rfl rfl hdg kk
theorem gt_X11_40 (X : Cx p s m args meth c cc nL ret RX11 D (tyF b) A) (O : wO D 46 (gF b h) h u A H0 H locs) (hdg : decode cc pc = .ok (.getfield 40, 3)) (kk : W p l e R s m args below meth c H locs cells slots Q (F0 m (pc + 3) ls (.ref (h 25) :: rest))) : W p l e R s m args below meth c H locs cells slots Q (F0 m pc ls (.ref (h 0) :: rest)) := q_get X O 0 (by decide) (ci := 11) rfl rfl inuX11 4 (by decide) wd_2_7 rfl rfl hdg kk
theorem gt_X11_59 (X : Cx p s m args meth c cc nL ret RX11 D (tyF b) A) (O : wO D 46 (gF b h) h u A H0 H locs) (hdg : decode cc pc = .ok (.getfield 59, 3)) (kk : W p l e R s m args below meth c H locs cells slots Q (F0 m (pc + 3) ls (.ref (h 27) :: rest))) : W p l e R s m args below meth c H locs cells slots Q (F0 m pc ls (.ref (h 0) :: rest)) := q_get X O 0 (by decide) (ci := 11) rfl rfl inuX11 5 (by decide) wd_2_23 rfl rfl hdg kk
theorem gt_X11_65 (X : Cx p s m args meth c cc nL ret RX11 D (tyF b) A) (O : wO D 46 (gF b h) h u A H0 H locs) (hdg : decode cc pc = .ok (.getfield 65, 3)) (kk : W p l e R s m args below meth c H locs cells slots Q (F0 m (pc + 3) ls (.ref (h 33) :: rest))) : W p l e R s m args below meth c H locs cells slots Q (F0 m pc ls (.ref (h 0) :: rest)) := q_get X O 0 (by decide) (ci := 11) rfl rfl inuX11 6 (by decide) wd_3_1 rfl rfl hdg kk
theorem gt_X11_70 (X : Cx p s m args meth c cc nL ret RX11 D (tyF b) A) (O : wO D 46 (gF b h) h u A H0 H locs) (hdg : decode cc pc = .ok (.getfield 70, 3)) (kk : W p l e R s m args below meth c H locs cells slots Q (F0 m (pc + 3) ls (.int (u 0 7) :: rest))) : W p l e R s m args below meth c H locs cells slots Q (F0 m pc ls (.ref (h 0) :: rest)) := q_get X O 0 (by decide) (ci := 11) rfl rfl inuX11 7 (by decide) wd_3_4 rfl rfl hdg kk
theorem pt_X11_70 {v : Int32} (X : Cx p s m args meth c cc nL ret RX11 D (tyF b) A) (O : wO D 46 (gF b h) h u A H0 H locs) (hdg : decode cc pc = .ok (.putfield 70, 3)) (kk : ∀ (H1 : Heap) (locs1 : List Loc), wO D 46 (gF b h) h (su u 0 7 v) A H0 H1 locs1 → W p l e R s m args below meth c H1 locs1 cells slots Q (F0 m (pc + 3) ls (rest))) : W p l e R s m args below meth c H locs cells slots Q (F0 m pc ls (.int v :: .ref (h 0) :: rest)) := q_put X O 0 (by decide) (ci := 11) rfl rfl inuX11 tyX11 tyX11_ok nmX11 7 (by decide) wd_3_4 rfl rfl (by decide +kernel) (by show _ < _; simp only [List.length_cons, List.length_nil]; decide) rfl hdg kk
theorem gt_X2_9 (X : Cx p s m args meth c cc nL ret RX2 D (tyF b) A) (O : wO D 46 (gF b h) h u A H0 H locs) (hdg : decode cc pc = .ok (.getfield 9, 3)) (kk : W p l e R s m args below meth c H locs cells slots Q (F0 m (pc + 3) ls (.ref (h 21) :: rest))) : W p l e R s m args below meth c H locs cells slots Q (F0 m pc ls (.ref (h 20) :: rest)) := q_get X O 20 (by decide) (ci := 2) rfl rfl inuX2 0 (by decide) wd_4_11 rfl rfl hdg kk
theorem gt_X2_15 (X : Cx p s m args meth c cc nL ret RX2 D (tyF b) A) (O : wO D 46 (gF b h) h u A H0 H locs) (hdg : decode cc pc = .ok (.getfield 15, 3)) (kk : W p l e R s m args below meth c H locs cells slots Q (F0 m (pc + 3) ls (.ref (h 22) :: rest))) : W p l e R s m args below meth c H locs cells slots Q (F0 m pc ls (.ref (h 20) :: rest)) := q_get X O 20 (by decide) (ci := 2) rfl rfl inuX2 1 (by decide) wd_4_12 rfl rfl hdg kk
theorem gt_X2_18 (X : Cx p s m args meth c cc nL ret RX2 D (tyF b) A) (O : wO D 46 (gF b h) h u A H0 H locs) (hdg : decode cc pc = .ok (.getfield 18, 3)) (kk : W p l e R s m args below meth c H locs cells slots Q (F0 m (pc + 3) ls (.ref (h 23) :: rest))) : W p l e R s m args below meth c H locs cells slots Q (F0 m pc ls (.ref (h 20) :: rest)) := q_get X O 20 (by decide) (ci := 2) rfl rfl inuX2 2 (by decide) wd_4_13 rfl rfl hdg kk
theorem gt_X2_21 (X : Cx p s m args meth c cc nL ret RX2 D (tyF b) A) (O : wO D 46 (gF b h) h u A H0 H locs) (hdg : decode cc pc = .ok (.getfield 21, 3)) (kk : W p l e R s m args below meth c H locs cells slots Q (F0 m (pc + 3) ls (.ref (h 24) :: rest))) : W p l e R s m args below meth c H locs cells slots Q (F0 m pc ls (.ref (h 20) :: rest)) := q_get X O 20 (by decide) (ci := 2) rfl rfl inuX2 3 (by decide) wd_4_14 rfl rfl hdg kk
theorem gt_X2_24 (X : Cx p s m args meth c cc nL ret RX2 D (tyF b) A) (O : wO D 46 (gF b h) h u A H0 H locs) (hdg : decode cc pc = .ok (.getfield 24, 3)) (kk : W p l e R s m args below meth c H locs cells slots Q (F0 m (pc + 3) ls (.int (u 20 5) :: rest))) : W p l e R s m args below meth c H locs cells slots Q (F0 m pc ls (.ref (h 20) :: rest)) := q_get X O 20 (by decide) (ci := 2) rfl rfl inuX2 5 (by decide) wd_9_2 rfl rfl hdg kk
theorem pt_X2_24 {v : Int32} (X : Cx p s m args meth c cc nL ret RX2 D (tyF b) A) (O : wO D 46 (gF b h) h u A H0 H locs) (hdg : decode cc pc = .ok (.putfield 24, 3)) (kk : ∀ (H1 : Heap) (locs1 : List Loc), wO D 46 (gF b h) h (su u 20 5 v) A H0 H1 locs1 → W p l e R s m args below meth c H1 locs1 cells slots Q (F0 m (pc + 3) ls (rest))) : W p l e R s m args below meth c H locs cells slots Q (F0 m pc ls (.int v :: .ref (h 20) :: rest)) := q_put X O 20 (by decide) (ci := 2) rfl rfl inuX2 tyX2 tyX2_ok nmX2 5 (by decide) wd_9_2 rfl rfl (by decide +kernel) (by show _ < _; simp only [List.length_cons, List.length_nil]; decide) rfl hdg kk
theorem gt_X2_28 (X : Cx p s m args meth c cc nL ret RX2 D (tyF b) A) (O : wO D 46 (gF b h) h u A H0 H locs) (hdg : decode cc pc = .ok (.getfield 28, 3)) (kk : W p l e R s m args below meth c H locs cells slots Q (F0 m (pc + 3) ls (.int (u 20 4) :: rest))) : W p l e R s m args below meth c H locs cells slots Q (F0 m pc ls (.ref (h 20) :: rest)) := q_get X O 20 (by decide) (ci := 2) rfl rfl inuX2 4 (by decide) wd_9_1 rfl rfl hdg kk
theorem pt_X2_28 {v : Int32} (X : Cx p s m args meth c cc nL ret RX2 D (tyF b) A) (O : wO D 46 (gF b h) h u A H0 H locs) (hdg : decode cc pc = .ok (.putfield 28, 3)) (kk : ∀ (H1 : Heap) (locs1 : List Loc), wO D 46 (gF b h) h (su u 20 4 v) A H0 H1 locs1 → W p l e R s m args below meth c H1 locs1 cells slots Q (F0 m (pc + 3) ls (rest))) : W p l e R s m args below meth c H locs cells slots Q (F0 m pc ls (.int v :: .ref (h 20) :: rest)) := q_put X O 20 (by decide) (ci := 2) rfl rfl inuX2 tyX2 tyX2_ok nmX2 4 (by decide) wd_9_1 rfl rfl (by decide +kernel) (by show _ < _; simp only [List.length_cons, List.length_nil]; decide) rfl hdg kk
theorem gt_X6_9 (X : Cx p s m args meth c cc nL ret RX6 D (tyF b) A) (O : wO D 46 (gF b h) h u A H0 H locs) (hdg : decode cc pc = .ok (.getfield 9, 3)) (kk : W p l e R s m args below meth c H locs cells slots Q (F0 m (pc + 3) ls (.ref (h 19) :: rest))) : W p l e R s m args below meth c H locs cells slots Q (F0 m pc ls (.ref (h 18) :: rest)) := q_get X O 18 (by decide) (ci := 6) rfl rfl inuX6 0 (by decide) wd_4_7 rfl rfl hdg kk
theorem gt_X6_15 (X : Cx p s m args meth c cc nL ret RX6 D (tyF b) A) (O : wO D 46 (gF b h) h u A H0 H locs) (hdg : decode cc pc = .ok (.getfield 15, 3)) (kk : W p l e R s m args below meth c H locs cells slots Q (F0 m (pc + 3) ls (.int (u 18 1) :: rest))) : W p l e R s m args below meth c H locs cells slots Q (F0 m pc ls (.ref (h 18) :: rest)) := q_get X O 18 (by decide) (ci := 6) rfl rfl inuX6 1 (by decide) wd_13_10 rfl rfl hdg kk
theorem pt_X6_15 {v : Int32} (X : Cx p s m args meth c cc nL ret RX6 D (tyF b) A) (O : wO D 46 (gF b h) h u A H0 H locs) (hdg : decode cc pc = .ok (.putfield 15, 3)) (kk : ∀ (H1 : Heap) (locs1 : List Loc), wO D 46 (gF b h) h (su u 18 1 v) A H0 H1 locs1 → W p l e R s m args below meth c H1 locs1 cells slots Q (F0 m (pc + 3) ls (rest))) : W p l e R s m args below meth c H locs cells slots Q (F0 m pc ls (.int v :: .ref (h 18) :: rest)) := q_put X O 18 (by decide) (ci := 6) rfl rfl inuX6 tyX6 tyX6_ok nmX6 1 (by decide) wd_13_10 rfl rfl (by decide +kernel) (by show _ < _; simp only [List.length_cons, List.length_nil]; decide) rfl hdg kk
theorem gt_X7_9 (X : Cx p s m args meth c cc nL ret RX7 D (tyF b) A) (O : wO D 46 (gF b h) h u A H0 H locs) (hdg : decode cc pc = .ok (.getfield 9, 3)) (kk : W p l e R s m args below meth c H locs cells slots Q (F0 m (pc + 3) ls (.ref (h 13) :: rest))) : W p l e R s m args below meth c H locs cells slots Q (F0 m pc ls (.ref (h 12) :: rest)) := q_get X O 12 (by decide) (ci := 7) rfl rfl inuX7 0 (by decide) wd_3_20 rfl rfl hdg kk
theorem gt_X7_15 (X : Cx p s m args meth c cc nL ret RX7 D (tyF b) A) (O : wO D 46 (gF b h) h u A H0 H locs) (hdg : decode cc pc = .ok (.getfield 15, 3)) (kk : W p l e R s m args below meth c H locs cells slots Q (F0 m (pc + 3) ls (.int (u 12 2) :: rest))) : W p l e R s m args below meth c H locs cells slots Q (F0 m pc ls (.ref (h 12) :: rest)) := q_get X O 12 (by decide) (ci := 7) rfl rfl inuX7 2 (by decide) wd_3_21 rfl rfl hdg kk
theorem pt_X7_15 {v : Int32} (X : Cx p s m args meth c cc nL ret RX7 D (tyF b) A) (O : wO D 46 (gF b h) h u A H0 H locs) (hdg : decode cc pc = .ok (.putfield 15, 3)) (kk : ∀ (H1 : Heap) (locs1 : List Loc), wO D 46 (gF b h) h (su u 12 2 v) A H0 H1 locs1 → W p l e R s m args below meth c H1 locs1 cells slots Q (F0 m (pc + 3) ls (rest))) : W p l e R s m args below meth c H locs cells slots Q (F0 m pc ls (.int v :: .ref (h 12) :: rest)) := q_put X O 12 (by decide) (ci := 7) rfl rfl inuX7 tyX7 tyX7_ok nmX7 2 (by decide) wd_3_21 rfl rfl (by decide +kernel) (by show _ < _; simp only [List.length_cons, List.length_nil]; decide) rfl hdg kk
theorem gt_X7_19 (X : Cx p s m args meth c cc nL ret RX7 D (tyF b) A) (O : wO D 46 (gF b h) h u A H0 H locs) (hdg : decode cc pc = .ok (.getfield 19, 3)) (kk : W p l e R s m args below meth c H locs cells slots Q (F0 m (pc + 3) ls (.ref (h 14) :: rest))) : W p l e R s m args below meth c H locs cells slots Q (F0 m pc ls (.ref (h 12) :: rest)) := q_get X O 12 (by decide) (ci := 7) rfl rfl inuX7 3 (by decide) wd_3_22 rfl rfl hdg kk
theorem gt_X7_22 (X : Cx p s m args meth c cc nL ret RX7 D (tyF b) A) (O : wO D 46 (gF b h) h u A H0 H locs) (hdg : decode cc pc = .ok (.getfield 22, 3)) (kk : W p l e R s m args below meth c H locs cells slots Q (F0 m (pc + 3) ls (.ref (h 15) :: rest))) : W p l e R s m args below meth c H locs cells slots Q (F0 m pc ls (.ref (h 12) :: rest)) := q_get X O 12 (by decide) (ci := 7) rfl rfl inuX7 4 (by decide) wd_3_23 rfl rfl hdg kk
theorem gt_X7_25 (X : Cx p s m args meth c cc nL ret RX7 D (tyF b) A) (O : wO D 46 (gF b h) h u A H0 H locs) (hdg : decode cc pc = .ok (.getfield 25, 3)) (kk : W p l e R s m args below meth c H locs cells slots Q (F0 m (pc + 3) ls (.ref (h 16) :: rest))) : W p l e R s m args below meth c H locs cells slots Q (F0 m pc ls (.ref (h 12) :: rest)) := q_get X O 12 (by decide) (ci := 7) rfl rfl inuX7 5 (by decide) wd_4_0 rfl rfl hdg kk
theorem gt_X7_28 (X : Cx p s m args meth c cc nL ret RX7 D (tyF b) A) (O : wO D 46 (gF b h) h u A H0 H locs) (hdg : decode cc pc = .ok (.getfield 28, 3)) (kk : W p l e R s m args below meth c H locs cells slots Q (F0 m (pc + 3) ls (.int (u 12 6) :: rest))) : W p l e R s m args below meth c H locs cells slots Q (F0 m pc ls (.ref (h 12) :: rest)) := q_get X O 12 (by decide) (ci := 7) rfl rfl inuX7 6 (by decide) wd_4_1 rfl rfl hdg kk
theorem pt_X7_28 {v : Int32} (X : Cx p s m args meth c cc nL ret RX7 D (tyF b) A) (O : wO D 46 (gF b h) h u A H0 H locs) (hdg : decode cc pc = .ok (.putfield 28, 3)) (kk : ∀ (H1 : Heap) (locs1 : List Loc), wO D 46 (gF b h) h (su u 12 6 v) A H0 H1 locs1 → W p l e R s m args below meth c H1 locs1 cells slots Q (F0 m (pc + 3) ls (rest))) : W p l e R s m args below meth c H locs cells slots Q (F0 m pc ls (.int v :: .ref (h 12) :: rest)) := q_put X O 12 (by decide) (ci := 7) rfl rfl inuX7 tyX7 tyX7_ok nmX7 6 (by decide) wd_4_1 rfl rfl (by decide +kernel) (by show _ < _; simp only [List.length_cons, List.length_nil]; decide) rfl hdg kk
theorem gt_X7_31 (X : Cx p s m args meth c cc nL ret RX7 D (tyF b) A) (O : wO D 46 (gF b h) h u A H0 H locs) (hdg : decode cc pc = .ok (.getfield 31, 3)) (kk : W p l e R s m args below meth c H locs cells slots Q (F0 m (pc + 3) ls (.ref (h 17) :: rest))) : W p l e R s m args below meth c H locs cells slots Q (F0 m pc ls (.ref (h 12) :: rest)) := q_get X O 12 (by decide) (ci := 7) rfl rfl inuX7 7 (by decide) wd_4_2 rfl rfl hdg kk
theorem gt_X7_34 (X : Cx p s m args meth c cc nL ret RX7 D (tyF b) A) (O : wO D 46 (gF b h) h u A H0 H locs) (hdg : decode cc pc = .ok (.getfield 34, 3)) (kk : W p l e R s m args below meth c H locs cells slots Q (F0 m (pc + 3) ls (.int (u 12 8) :: rest))) : W p l e R s m args below meth c H locs cells slots Q (F0 m pc ls (.ref (h 12) :: rest)) := q_get X O 12 (by decide) (ci := 7) rfl rfl inuX7 8 (by decide) wd_4_3 rfl rfl hdg kk
theorem pt_X7_34 {v : Int32} (X : Cx p s m args meth c cc nL ret RX7 D (tyF b) A) (O : wO D 46 (gF b h) h u A H0 H locs) (hdg : decode cc pc = .ok (.putfield 34, 3)) (kk : ∀ (H1 : Heap) (locs1 : List Loc), wO D 46 (gF b h) h (su u 12 8 v) A H0 H1 locs1 → W p l e R s m args below meth c H1 locs1 cells slots Q (F0 m (pc + 3) ls (rest))) : W p l e R s m args below meth c H locs cells slots Q (F0 m pc ls (.int v :: .ref (h 12) :: rest)) := q_put X O 12 (by decide) (ci := 7) rfl rfl inuX7 tyX7 tyX7_ok nmX7 8 (by decide) wd_4_3 rfl rfl (by decide +kernel) (by show _ < _; simp only [List.length_cons, List.length_nil]; decide) rfl hdg kk
theorem gt_X7_47 (X : Cx p s m args meth c cc nL ret RX7 D (tyF b) A) (O : wO D 46 (gF b h) h u A H0 H locs) (hdg : decode cc pc = .ok (.getfield 47, 3)) (kk : W p l e R s m args below meth c H locs cells slots Q (F0 m (pc + 3) ls (.int (u 12 1) :: rest))) : W p l e R s m args below meth c H locs cells slots Q (F0 m pc ls (.ref (h 12) :: rest)) := q_get X O 12 (by decide) (ci := 7) rfl rfl inuX7 1 (by decide) wd_15_22 rfl rfl hdg kk
theorem pt_X7_47 {v : Int32} (X : Cx p s m args meth c cc nL ret RX7 D (tyF b) A) (O : wO D 46 (gF b h) h u A H0 H locs) (hdg : decode cc pc = .ok (.putfield 47, 3)) (kk : ∀ (H1 : Heap) (locs1 : List Loc), wO D 46 (gF b h) h (su u 12 1 v) A H0 H1 locs1 → W p l e R s m args below meth c H1 locs1 cells slots Q (F0 m (pc + 3) ls (rest))) : W p l e R s m args below meth c H locs cells slots Q (F0 m pc ls (.int v :: .ref (h 12) :: rest)) := q_put X O 12 (by decide) (ci := 7) rfl rfl inuX7 tyX7 tyX7_ok nmX7 1 (by decide) wd_15_22 rfl rfl (by decide +kernel) (by show _ < _; simp only [List.length_cons, List.length_nil]; decide) rfl hdg kk
theorem gt_X8_9 {sk : Nat} (hs : sk < 6) (X : Cx p s m args meth c cc nL ret RX8 D (tyF b) A) (O : wO D 46 (gF b h) h u A H0 H locs) (hdg : decode cc pc = .ok (.getfield 9, 3)) (kk : W p l e R s m args below meth c H locs cells slots Q (F0 m (pc + 3) ls (.ref (h (35 + 2 * sk)) :: rest))) : W p l e R s m args below meth c H locs cells slots Q (F0 m pc ls (.ref (h (34 + 2 * sk)) :: rest)) := q_get X O (34 + 2 * sk) (sh_lt hs) (ci := 8) (gF_sh hs _) rfl inuX8 0 (by decide) wd_5_9 rfl rfl hdg kk
theorem gt_X8_15 {sk : Nat} (hs : sk < 6) (X : Cx p s m args meth c cc nL ret RX8 D (tyF b) A) (O : wO D 46 (gF b h) h u A H0 H locs) (hdg : decode cc pc = .ok (.getfield 15, 3)) (kk : W p l e R s m args below meth c H locs cells slots Q (F0 m (pc + 3) ls (.int (u (34 + 2 * sk) 1) :: rest))) : W p l e R s m args below meth c H locs cells slots Q (F0 m pc ls (.ref (h (34 + 2 * sk)) :: rest)) := q_get X O (34 + 2 * sk) (sh_lt hs) (ci := 8) (gF_sh hs _) rfl inuX8 1 (by decide) wd_5_10 rfl rfl hdg kk
theorem pt_X8_15 {v : Int32} {sk : Nat} (hs : sk < 6) (X : Cx p s m args meth c cc nL ret RX8 D (tyF b) A) (O : wO D 46 (gF b h) h u A H0 H locs) (hdg : decode cc pc = .ok (.putfield 15, 3)) (kk : ∀ (H1 : Heap) (locs1 : List Loc), wO D 46 (gF b h) h (su u (34 + 2 * sk) 1 v) A H0 H1 locs1 → W p l e R s m args below meth c H1 locs1 cells slots Q (F0 m (pc + 3) ls (rest))) : W p l e R s m args below meth c H locs cells slots Q (F0 m pc ls (.int v :: .ref (h (34 + 2 * sk)) :: rest)) := q_put X O (34 + 2 * sk) (sh_lt hs) (ci := 8) (gF_sh hs _) rfl inuX8 tyX8 tyX8_ok nmX8 1 (by decide) wd_5_10 rfl rfl (by decide +kernel) (by simp only [List.length_cons, List.length_nil]; decide) (gF_sh hs _) hdg kk
theorem gt_X8_19 {sk : Nat} (hs : sk < 6) (X : Cx p s m args meth c cc nL ret RX8 D (tyF b) A) (O : wO D 46 (gF b h) h u A H0 H locs) (hdg : decode cc pc = .ok (.getfield 19, 3)) (kk : W p l e R s m args below meth c H locs cells slots Q (F0 m (pc + 3) ls (.int (u (34 + 2 * sk) 2) :: rest))) : W p l e R s m args below meth c H locs cells slots Q (F0 m pc ls (.ref (h (34 + 2 * sk)) :: rest)) := q_get X O (34 + 2 * sk) (sh_lt hs) (ci := 8) (gF_sh hs _) rfl inuX8 2 (by decide) wd_38_10 rfl rfl hdg kk
theorem pt_X8_19 {v : Int32} {sk : Nat} (hs : sk < 6) (X : Cx p s m args meth c cc nL ret RX8 D (tyF b) A) (O : wO D 46 (gF b h) h u A H0 H locs) (hdg : decode cc pc = .ok (.putfield 19, 3)) (kk : ∀ (H1 : Heap) (locs1 : List Loc), wO D 46 (gF b h) h (su u (34 + 2 * sk) 2 v) A H0 H1 locs1 → W p l e R s m args below meth c H1 locs1 cells slots Q (F0 m (pc + 3) ls (rest))) : W p l e R s m args below meth c H locs cells slots Q (F0 m pc ls (.int v :: .ref (h (34 + 2 * sk)) :: rest)) := q_put X O (34 + 2 * sk) (sh_lt hs) (ci := 8) (gF_sh hs _) rfl inuX8 tyX8 tyX8_ok nmX8 2 (by decide) wd_38_10 rfl rfl (by decide +kernel) (by simp only [List.length_cons, List.length_nil]; decide) (gF_sh hs _) hdg kk
theorem gt_X3_17 (X : Cx p s m args meth c cc nL ret RX3 D (tyF b) A) (O : wO D 46 (gF b h) h u A H0 H locs) (hdg : decode cc pc = .ok (.getfield 17, 3)) (kk : W p l e R s m args below meth c H locs cells slots Q (F0 m (pc + 3) ls (.int (u 25 2) :: rest))) : W p l e R s m args below meth c H locs cells slots Q (F0 m pc ls (.ref (h 25) :: rest)) := q_getN X O 25 (by decide) (ci := 0) rfl rfl inuX0 2 (by decide) (List.mem_of_getElem? (i := 18) rfl) rfl rfl hdg kk
theorem gt_X4_13 (X : Cx p s m args meth c cc nL ret RX4 D (tyF b) A) (O : wO D 46 (gF b h) h u A H0 H locs) (hdg : decode cc pc = .ok (.getfield 13, 3)) (kk : W p l e R s m args below meth c H locs cells slots Q (F0 m (pc + 3) ls (.int (u 25 2) :: rest))) : W p l e R s m args below meth c H locs cells slots Q (F0 m pc ls (.ref (h 25) :: rest)) := q_getN X O 25 (by decide) (ci := 0) rfl rfl inuX0 2 (by decide) (List.mem_of_getElem? (i := 17) rfl) rfl rfl hdg kk
theorem gt_X4_23 (X : Cx p s m args meth c cc nL ret RX4 D (tyF b) A) (O : wO D 46 (gF b h) h u A H0 H locs) (hdg : decode cc pc = .ok (.getfield 23, 3)) (kk : W p l e R s m args below meth c H locs cells slots Q (F0 m (pc + 3) ls (.int (u 25 3) :: rest))) : W p l e R s m args below meth c H locs cells slots Q (F0 m pc ls (.ref (h 25) :: rest)) := q_getN X O 25 (by decide) (ci := 0) rfl rfl inuX0 3 (by decide) (List.mem_of_getElem? (i := 19) rfl) rfl rfl hdg kk
theorem gt_X4_26 (X : Cx p s m args meth c cc nL ret RX4 D (tyF b) A) (O : wO D 46 (gF b h) h u A H0 H locs) (hdg : decode cc pc = .ok (.getfield 26, 3)) (kk : W p l e R s m args below meth c H locs cells slots Q (F0 m (pc + 3) ls (.int (u 25 5) :: rest))) : W p l e R s m args below meth c H locs cells slots Q (F0 m pc ls (.ref (h 25) :: rest)) := q_getN X O 25 (by decide) (ci := 0) rfl rfl inuX0 5 (by decide) (List.mem_of_getElem? (i := 21) rfl) rfl rfl hdg kk
theorem gt_X5_13 (X : Cx p s m args meth c cc nL ret RX5 D (tyF b) A) (O : wO D 46 (gF b h) h u A H0 H locs) (hdg : decode cc pc = .ok (.getfield 13, 3)) (kk : W p l e R s m args below meth c H locs cells slots Q (F0 m (pc + 3) ls (.int (u 25 4) :: rest))) : W p l e R s m args below meth c H locs cells slots Q (F0 m pc ls (.ref (h 25) :: rest)) := q_getN X O 25 (by decide) (ci := 0) rfl rfl inuX0 4 (by decide) (List.mem_of_getElem? (i := 20) rfl) rfl rfl hdg kk
theorem q_ik0 (X : Cx p s m args meth c cc nL ret RX11 D (tyF b) A) (O : wO D 46 (gF b h) h u A H0 H locs) (hdg : decode cc pc = .ok (.instanceof 47, 3)) (kk : W p l e R s m args below meth c H locs cells slots Q (F0 m (pc + 3) ls (.int 0 :: rest))) : W p l e R s m args below meth c H locs cells slots Q (F0 m pc ls (.ref (h 28) :: rest)) := by
  obtain ⟨⟨hx, hb, hml, hown, hts⟩, hK, ⟨hNs, -⟩, -, -⟩ := X
  exact va_instNo hx hb hown (hts _ wd_2_11) hNs.2.2.1 (va_recv hK O.1 (ci := 4) (q0 := 28) (q := (RX4, TX4, 0)) rfl ((wG_at (by decide)).trans rfl)) hdg kk
theorem q_ik1 (X : Cx p s m args meth c cc nL ret RX11 D (tyF b) A) (O : wO D 46 (gF b h) h u A H0 H locs) (hdg : decode cc pc = .ok (.instanceof 47, 3)) (kk : W p l e R s m args below meth c H locs cells slots Q (F0 m (pc + 3) ls (.int 1 :: rest))) : W p l e R s m args below meth c H locs cells slots Q (F0 m pc ls (.ref (h 29) :: rest)) := by
  obtain ⟨⟨hx, hb, hml, hown, hts⟩, hK, ⟨hNs, -⟩, -, -⟩ := X
  exact va_instS hx hb hown (hts _ wd_2_11) (hK.1 9 (RX9, TX9, 0) rfl).2 (va_recv hK O.1 (ci := 9) (q0 := 29) (q := (RX9, TX9, 0)) rfl ((wG_at (by decide)).trans rfl)) hdg kk
theorem q_ik2 (X : Cx p s m args meth c cc nL ret RX11 D (tyF b) A) (O : wO D 46 (gF b h) h u A H0 H locs) (hdg : decode cc pc = .ok (.instanceof 47, 3)) (kk : W p l e R s m args below meth c H locs cells slots Q (F0 m (pc + 3) ls (.int 0 :: rest))) : W p l e R s m args below meth c H locs cells slots Q (F0 m pc ls (.ref (h 30) :: rest)) := by
  obtain ⟨⟨hx, hb, hml, hown, hts⟩, hK, ⟨hNs, -⟩, -, -⟩ := X
  exact va_instNo hx hb hown (hts _ wd_2_11) hNs.2.2.2.1 (va_recv hK O.1 (ci := 3) (q0 := 30) (q := (RX3, TX3, 0)) rfl ((wG_at (by decide)).trans rfl)) hdg kk
theorem q_ik3 (X : Cx p s m args meth c cc nL ret RX11 D (tyF b) A) (O : wO D 46 (gF b h) h u A H0 H locs) (hdg : decode cc pc = .ok (.instanceof 47, 3)) (kk : W p l e R s m args below meth c H locs cells slots Q (F0 m (pc + 3) ls (.int 1 :: rest))) : W p l e R s m args below meth c H locs cells slots Q (F0 m pc ls (.ref (h 31) :: rest)) := by
  obtain ⟨⟨hx, hb, hml, hown, hts⟩, hK, ⟨hNs, -⟩, -, -⟩ := X
  exact va_instY hx hb hown (hts _ wd_2_11) hNs.2.1 (va_recv hK O.1 (ci := 1) (q0 := 31) (q := (RX1, TX1, 0)) rfl ((wG_at (by decide)).trans rfl)) hdg kk
theorem q_ik4 (X : Cx p s m args meth c cc nL ret RX11 D (tyF b) A) (O : wO D 46 (gF b h) h u A H0 H locs) (hdg : decode cc pc = .ok (.instanceof 47, 3)) (kk : W p l e R s m args below meth c H locs cells slots Q (F0 m (pc + 3) ls (.int 0 :: rest))) : W p l e R s m args below meth c H locs cells slots Q (F0 m pc ls (.ref (h 32) :: rest)) := by
  obtain ⟨⟨hx, hb, hml, hown, hts⟩, hK, ⟨hNs, -⟩, -, -⟩ := X
  exact va_instNo hx hb hown (hts _ wd_2_11) hNs.2.2.2.2 (va_recv hK O.1 (ci := 5) (q0 := 32) (q := (RX5, TX5, 0)) rfl ((wG_at (by decide)).trans rfl)) hdg kk
theorem q_min {x v : Int32} {own : String} {tys : List (ClassId × FieldType)} {idx : Nat} (X : Cx p s m args meth c cc nL ret own D tys A) (hsz : ls.size = nL) (w1 : Cond.methodLink own idx Lib.Math.min.name ∈ wsU) (w2 : Cond.static Lib.Math.min.name ∈ wsU) (w3 : Cond.initialized "java/lang/Math" ∈ wsU) (w4 : Cond.code Lib.Math.min.name Lib.Math.min.code 2 (some .int) ∈ wsU) (hR : 1 ≤ R.frames ∧ 21 ≤ R.locals) (hrm : (rest.map fun v => v.category).sum ≤ 8) (hcs : cells ≤ R.cells ∧ slots ≤ R.slots) (hdg : decode cc pc = .ok (.invokestatic idx, 3))
    (kk : W p l e R s m args below meth c H locs cells slots Q (F0 m (pc + 3) ls (.int (if v < x then v else x) :: rest))) : W p l e R s m args below meth c H locs cells slots Q (F0 m pc ls (.int v :: .int x :: rest)) := by
  obtain ⟨⟨hx, hb, hml, hown, hts⟩, -⟩ := X
  exact va_mmin hx hb (hml.trans hsz.symm) hown (hts _ w1) (hts _ w2) (hts _ w3) (hts _ w4) hR.1 (by omega) hcs.1 hcs.2 hdg kk
end FRF
end
