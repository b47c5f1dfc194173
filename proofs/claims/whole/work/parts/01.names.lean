-- ===== PART A: goes FIRST, ahead of the names: the tables' words, and 'selects' of the private methods out of them =====
/-- a private method of a class that the tables say can be made, by its rows of tables_1 -/
def lw_okq (q : MethodName × Nat) : Prop := (q.1.cls ≠ "java/lang/invoke/MethodHandle" ∧ q.1.cls ≠ "java/lang/invoke/VarHandle") ∧ Cond.instantiable q.1.cls q.2 ∈ tables_1 ∧ Cond.privateMethod q.1 ∈ tables_1 ∧ Cond.instanceMethod q.1 ∈ tables_1
theorem lw_p0 : lw_okq (⟨"WordOnPost", "bad", "()I"⟩, 12) := ⟨⟨by decide +kernel, by decide +kernel⟩, List.mem_of_getElem? (i := 16) (by decide +kernel), List.mem_of_getElem? (i := 414) (by decide +kernel), List.mem_of_getElem? (i := 415) (by decide +kernel)⟩
theorem lw_p1 : lw_okq (⟨"WordOnPost", "full", "()I"⟩, 12) := ⟨⟨by decide +kernel, by decide +kernel⟩, List.mem_of_getElem? (i := 16) (by decide +kernel), List.mem_of_getElem? (i := 418) (by decide +kernel), List.mem_of_getElem? (i := 419) (by decide +kernel)⟩
theorem lw_p2 : lw_okq (⟨"WordOnPost", "changed", "()V"⟩, 12) := ⟨⟨by decide +kernel, by decide +kernel⟩, List.mem_of_getElem? (i := 16) (by decide +kernel), List.mem_of_getElem? (i := 422) (by decide +kernel), List.mem_of_getElem? (i := 423) (by decide +kernel)⟩
theorem lw_p3 : lw_okq (⟨"WordOnPost", "exchange", "([III)I"⟩, 12) := ⟨⟨by decide +kernel, by decide +kernel⟩, List.mem_of_getElem? (i := 16) (by decide +kernel), List.mem_of_getElem? (i := 430) (by decide +kernel), List.mem_of_getElem? (i := 431) (by decide +kernel)⟩
theorem lw_p4 : lw_okq (⟨"WordOnPost$Tokens", "readLetters", "([III)V"⟩, 5) := ⟨⟨by decide +kernel, by decide +kernel⟩, List.mem_of_getElem? (i := 138) (by decide +kernel), List.mem_of_getElem? (i := 479) (by decide +kernel), List.mem_of_getElem? (i := 480) (by decide +kernel)⟩
theorem lw_p5 : lw_okq (⟨"WordOnPost$Tokens", "keep", "(III)V"⟩, 5) := ⟨⟨by decide +kernel, by decide +kernel⟩, List.mem_of_getElem? (i := 138) (by decide +kernel), List.mem_of_getElem? (i := 491) (by decide +kernel), List.mem_of_getElem? (i := 492) (by decide +kernel)⟩
theorem lw_p6 : lw_okq (⟨"WordOnPost$Tokens", "readFigures", "([III)V"⟩, 5) := ⟨⟨by decide +kernel, by decide +kernel⟩, List.mem_of_getElem? (i := 138) (by decide +kernel), List.mem_of_getElem? (i := 498) (by decide +kernel), List.mem_of_getElem? (i := 499) (by decide +kernel)⟩
theorem lw_p7 : lw_okq (⟨"WordOnPost$Tale", "readItem", "(LWordOnPost$Tokens;I)Z"⟩, 8) := ⟨⟨by decide +kernel, by decide +kernel⟩, List.mem_of_getElem? (i := 162) (by decide +kernel), List.mem_of_getElem? (i := 511) (by decide +kernel), List.mem_of_getElem? (i := 512) (by decide +kernel)⟩
theorem lw_p8 : lw_okq (⟨"WordOnPost$Tale", "mayBegin", "(I)Z"⟩, 8) := ⟨⟨by decide +kernel, by decide +kernel⟩, List.mem_of_getElem? (i := 162) (by decide +kernel), List.mem_of_getElem? (i := 515) (by decide +kernel), List.mem_of_getElem? (i := 516) (by decide +kernel)⟩
theorem lw_p9 : lw_okq (⟨"WordOnPost$Tale", "take", "(III)V"⟩, 8) := ⟨⟨by decide +kernel, by decide +kernel⟩, List.mem_of_getElem? (i := 162) (by decide +kernel), List.mem_of_getElem? (i := 526) (by decide +kernel), List.mem_of_getElem? (i := 527) (by decide +kernel)⟩
theorem lw_p10 : lw_okq (⟨"WordOnPost$Tale", "stayUntil", "(I)V"⟩, 8) := ⟨⟨by decide +kernel, by decide +kernel⟩, List.mem_of_getElem? (i := 162) (by decide +kernel), List.mem_of_getElem? (i := 530) (by decide +kernel), List.mem_of_getElem? (i := 531) (by decide +kernel)⟩
theorem lw_p11 : lw_okq (⟨"WordOnPost$Lives", "findTurns", "()V"⟩, 10) := ⟨⟨by decide +kernel, by decide +kernel⟩, List.mem_of_getElem? (i := 30) (by decide +kernel), List.mem_of_getElem? (i := 542) (by decide +kernel), List.mem_of_getElem? (i := 543) (by decide +kernel)⟩
theorem lw_p12 : lw_okq (⟨"WordOnPost$Lives", "someoneMoves", "(I)Z"⟩, 10) := ⟨⟨by decide +kernel, by decide +kernel⟩, List.mem_of_getElem? (i := 30) (by decide +kernel), List.mem_of_getElem? (i := 546) (by decide +kernel), List.mem_of_getElem? (i := 547) (by decide +kernel)⟩
theorem lw_p13 : lw_okq (⟨"WordOnPost", "noPlace", "(I)Z"⟩, 12) := ⟨⟨by decide +kernel, by decide +kernel⟩, List.mem_of_getElem? (i := 16) (by decide +kernel), List.mem_of_getElem? (i := 554) (by decide +kernel), List.mem_of_getElem? (i := 555) (by decide +kernel)⟩
theorem lw_p14 : lw_okq (⟨"WordOnPost", "noLot", "(I)Z"⟩, 12) := ⟨⟨by decide +kernel, by decide +kernel⟩, List.mem_of_getElem? (i := 16) (by decide +kernel), List.mem_of_getElem? (i := 570) (by decide +kernel), List.mem_of_getElem? (i := 571) (by decide +kernel)⟩
theorem lw_p15 : lw_okq (⟨"WordOnPost", "noWhere", "(I)Z"⟩, 12) := ⟨⟨by decide +kernel, by decide +kernel⟩, List.mem_of_getElem? (i := 16) (by decide +kernel), List.mem_of_getElem? (i := 577) (by decide +kernel), List.mem_of_getElem? (i := 578) (by decide +kernel)⟩
def lw_privs_1 : List (MethodName × Nat) := [(⟨"WordOnPost", "bad", "()I"⟩, 12), (⟨"WordOnPost", "full", "()I"⟩, 12), (⟨"WordOnPost", "changed", "()V"⟩, 12), (⟨"WordOnPost", "exchange", "([III)I"⟩, 12), (⟨"WordOnPost$Tokens", "readLetters", "([III)V"⟩, 5), (⟨"WordOnPost$Tokens", "keep", "(III)V"⟩, 5), (⟨"WordOnPost$Tokens", "readFigures", "([III)V"⟩, 5), (⟨"WordOnPost$Tale", "readItem", "(LWordOnPost$Tokens;I)Z"⟩, 8), (⟨"WordOnPost$Tale", "mayBegin", "(I)Z"⟩, 8), (⟨"WordOnPost$Tale", "take", "(III)V"⟩, 8), (⟨"WordOnPost$Tale", "stayUntil", "(I)V"⟩, 8), (⟨"WordOnPost$Lives", "findTurns", "()V"⟩, 10), (⟨"WordOnPost$Lives", "someoneMoves", "(I)Z"⟩, 10), (⟨"WordOnPost", "noPlace", "(I)Z"⟩, 12), (⟨"WordOnPost", "noLot", "(I)Z"⟩, 12), (⟨"WordOnPost", "noWhere", "(I)Z"⟩, 12)]
theorem lw_r1 : ∀ q ∈ lw_privs_1, lw_okq q := List.forall_mem_cons.mpr ⟨lw_p0, List.forall_mem_cons.mpr ⟨lw_p1, List.forall_mem_cons.mpr ⟨lw_p2, List.forall_mem_cons.mpr ⟨lw_p3, List.forall_mem_cons.mpr ⟨lw_p4, List.forall_mem_cons.mpr ⟨lw_p5, List.forall_mem_cons.mpr ⟨lw_p6, List.forall_mem_cons.mpr ⟨lw_p7, List.forall_mem_cons.mpr ⟨lw_p8, List.forall_mem_cons.mpr ⟨lw_p9, List.forall_mem_cons.mpr ⟨lw_p10, List.forall_mem_cons.mpr ⟨lw_p11, List.forall_mem_cons.mpr ⟨lw_p12, List.forall_mem_cons.mpr ⟨lw_p13, List.forall_mem_cons.mpr ⟨lw_p14, List.forall_mem_cons.mpr ⟨lw_p15, fun _ h => absurd h List.not_mem_nil⟩⟩⟩⟩⟩⟩⟩⟩⟩⟩⟩⟩⟩⟩⟩⟩
theorem lw_p16 : lw_okq (⟨"WordOnPost", "hasFault", "(I)Z"⟩, 12) := ⟨⟨by decide +kernel, by decide +kernel⟩, List.mem_of_getElem? (i := 16) (by decide +kernel), List.mem_of_getElem? (i := 585) (by decide +kernel), List.mem_of_getElem? (i := 586) (by decide +kernel)⟩
theorem lw_p17 : lw_okq (⟨"WordOnPost", "no", "()I"⟩, 12) := ⟨⟨by decide +kernel, by decide +kernel⟩, List.mem_of_getElem? (i := 16) (by decide +kernel), List.mem_of_getElem? (i := 589) (by decide +kernel), List.mem_of_getElem? (i := 590) (by decide +kernel)⟩
theorem lw_p18 : lw_okq (⟨"WordOnPost$Lives", "countHeads", "(I)V"⟩, 10) := ⟨⟨by decide +kernel, by decide +kernel⟩, List.mem_of_getElem? (i := 30) (by decide +kernel), List.mem_of_getElem? (i := 617) (by decide +kernel), List.mem_of_getElem? (i := 618) (by decide +kernel)⟩
theorem lw_p19 : lw_okq (⟨"WordOnPost", "noWorlds", "()Z"⟩, 12) := ⟨⟨by decide +kernel, by decide +kernel⟩, List.mem_of_getElem? (i := 16) (by decide +kernel), List.mem_of_getElem? (i := 625) (by decide +kernel), List.mem_of_getElem? (i := 626) (by decide +kernel)⟩
theorem lw_p20 : lw_okq (⟨"WordOnPost$Worlds", "forgetSums", "()V"⟩, 12) := ⟨⟨by decide +kernel, by decide +kernel⟩, List.mem_of_getElem? (i := 24) (by decide +kernel), List.mem_of_getElem? (i := 633) (by decide +kernel), List.mem_of_getElem? (i := 634) (by decide +kernel)⟩
theorem lw_p21 : lw_okq (⟨"WordOnPost$Worlds", "shareOut", "()V"⟩, 12) := ⟨⟨by decide +kernel, by decide +kernel⟩, List.mem_of_getElem? (i := 24) (by decide +kernel), List.mem_of_getElem? (i := 638) (by decide +kernel), List.mem_of_getElem? (i := 639) (by decide +kernel)⟩
theorem lw_p22 : lw_okq (⟨"WordOnPost$Worlds", "tellersShare", "(ILWordOnPost$Tale;)I"⟩, 12) := ⟨⟨by decide +kernel, by decide +kernel⟩, List.mem_of_getElem? (i := 24) (by decide +kernel), List.mem_of_getElem? (i := 642) (by decide +kernel), List.mem_of_getElem? (i := 643) (by decide +kernel)⟩
theorem lw_p23 : lw_okq (⟨"WordOnPost$Worlds", "postShare", "(LWordOnPost$Tale;)I"⟩, 12) := ⟨⟨by decide +kernel, by decide +kernel⟩, List.mem_of_getElem? (i := 24) (by decide +kernel), List.mem_of_getElem? (i := 653) (by decide +kernel), List.mem_of_getElem? (i := 654) (by decide +kernel)⟩
theorem lw_p24 : lw_okq (⟨"WordOnPost$Chances", "weighSign", "(IIII)V"⟩, 4) := ⟨⟨by decide +kernel, by decide +kernel⟩, List.mem_of_getElem? (i := 238) (by decide +kernel), List.mem_of_getElem? (i := 661) (by decide +kernel), List.mem_of_getElem? (i := 662) (by decide +kernel)⟩
theorem lw_p25 : lw_okq (⟨"WordOnPost$Chances", "carry", "(II)V"⟩, 4) := ⟨⟨by decide +kernel, by decide +kernel⟩, List.mem_of_getElem? (i := 238) (by decide +kernel), List.mem_of_getElem? (i := 665) (by decide +kernel), List.mem_of_getElem? (i := 666) (by decide +kernel)⟩
theorem lw_p26 : lw_okq (⟨"WordOnPost$Big", "growTo", "(I)V"⟩, 2) := ⟨⟨by decide +kernel, by decide +kernel⟩, List.mem_of_getElem? (i := 245) (by decide +kernel), List.mem_of_getElem? (i := 695) (by decide +kernel), List.mem_of_getElem? (i := 696) (by decide +kernel)⟩
theorem lw_p27 : lw_okq (⟨"WordOnPost$Big", "trim", "()V"⟩, 2) := ⟨⟨by decide +kernel, by decide +kernel⟩, List.mem_of_getElem? (i := 245) (by decide +kernel), List.mem_of_getElem? (i := 700) (by decide +kernel), List.mem_of_getElem? (i := 701) (by decide +kernel)⟩
theorem lw_p28 : lw_okq (⟨"WordOnPost$Worlds", "weigh", "()V"⟩, 12) := ⟨⟨by decide +kernel, by decide +kernel⟩, List.mem_of_getElem? (i := 24) (by decide +kernel), List.mem_of_getElem? (i := 712) (by decide +kernel), List.mem_of_getElem? (i := 713) (by decide +kernel)⟩
theorem lw_p29 : lw_okq (⟨"WordOnPost$Worlds", "addUp", "()V"⟩, 12) := ⟨⟨by decide +kernel, by decide +kernel⟩, List.mem_of_getElem? (i := 24) (by decide +kernel), List.mem_of_getElem? (i := 729) (by decide +kernel), List.mem_of_getElem? (i := 730) (by decide +kernel)⟩
theorem lw_p30 : lw_okq (⟨"WordOnPost", "answerShare", "(LWordOnPost$Big;)I"⟩, 12) := ⟨⟨by decide +kernel, by decide +kernel⟩, List.mem_of_getElem? (i := 16) (by decide +kernel), List.mem_of_getElem? (i := 744) (by decide +kernel), List.mem_of_getElem? (i := 745) (by decide +kernel)⟩
theorem lw_p31 : lw_okq (⟨"WordOnPost$Fraction", "findDivisor", "()V"⟩, 5) := ⟨⟨by decide +kernel, by decide +kernel⟩, List.mem_of_getElem? (i := 322) (by decide +kernel), List.mem_of_getElem? (i := 753) (by decide +kernel), List.mem_of_getElem? (i := 754) (by decide +kernel)⟩
def lw_privs_2 : List (MethodName × Nat) := [(⟨"WordOnPost", "hasFault", "(I)Z"⟩, 12), (⟨"WordOnPost", "no", "()I"⟩, 12), (⟨"WordOnPost$Lives", "countHeads", "(I)V"⟩, 10), (⟨"WordOnPost", "noWorlds", "()Z"⟩, 12), (⟨"WordOnPost$Worlds", "forgetSums", "()V"⟩, 12), (⟨"WordOnPost$Worlds", "shareOut", "()V"⟩, 12), (⟨"WordOnPost$Worlds", "tellersShare", "(ILWordOnPost$Tale;)I"⟩, 12), (⟨"WordOnPost$Worlds", "postShare", "(LWordOnPost$Tale;)I"⟩, 12), (⟨"WordOnPost$Chances", "weighSign", "(IIII)V"⟩, 4), (⟨"WordOnPost$Chances", "carry", "(II)V"⟩, 4), (⟨"WordOnPost$Big", "growTo", "(I)V"⟩, 2), (⟨"WordOnPost$Big", "trim", "()V"⟩, 2), (⟨"WordOnPost$Worlds", "weigh", "()V"⟩, 12), (⟨"WordOnPost$Worlds", "addUp", "()V"⟩, 12), (⟨"WordOnPost", "answerShare", "(LWordOnPost$Big;)I"⟩, 12), (⟨"WordOnPost$Fraction", "findDivisor", "()V"⟩, 5)]
theorem lw_r2 : ∀ q ∈ lw_privs_2, lw_okq q := List.forall_mem_cons.mpr ⟨lw_p16, List.forall_mem_cons.mpr ⟨lw_p17, List.forall_mem_cons.mpr ⟨lw_p18, List.forall_mem_cons.mpr ⟨lw_p19, List.forall_mem_cons.mpr ⟨lw_p20, List.forall_mem_cons.mpr ⟨lw_p21, List.forall_mem_cons.mpr ⟨lw_p22, List.forall_mem_cons.mpr ⟨lw_p23, List.forall_mem_cons.mpr ⟨lw_p24, List.forall_mem_cons.mpr ⟨lw_p25, List.forall_mem_cons.mpr ⟨lw_p26, List.forall_mem_cons.mpr ⟨lw_p27, List.forall_mem_cons.mpr ⟨lw_p28, List.forall_mem_cons.mpr ⟨lw_p29, List.forall_mem_cons.mpr ⟨lw_p30, List.forall_mem_cons.mpr ⟨lw_p31, fun _ h => absurd h List.not_mem_nil⟩⟩⟩⟩⟩⟩⟩⟩⟩⟩⟩⟩⟩⟩⟩⟩
theorem lw_p32 : lw_okq (⟨"WordOnPost$Big", "topTwo", "()J"⟩, 2) := ⟨⟨by decide +kernel, by decide +kernel⟩, List.mem_of_getElem? (i := 245) (by decide +kernel), List.mem_of_getElem? (i := 774) (by decide +kernel), List.mem_of_getElem? (i := 775) (by decide +kernel)⟩
theorem lw_p33 : lw_okq (⟨"WordOnPost$Big", "takeAway", "(LWordOnPost$Big;JI)V"⟩, 2) := ⟨⟨by decide +kernel, by decide +kernel⟩, List.mem_of_getElem? (i := 245) (by decide +kernel), List.mem_of_getElem? (i := 781) (by decide +kernel), List.mem_of_getElem? (i := 782) (by decide +kernel)⟩
theorem lw_p34 : lw_okq (⟨"WordOnPost$Big", "raise", "(II)V"⟩, 2) := ⟨⟨by decide +kernel, by decide +kernel⟩, List.mem_of_getElem? (i := 245) (by decide +kernel), List.mem_of_getElem? (i := 785) (by decide +kernel), List.mem_of_getElem? (i := 786) (by decide +kernel)⟩
theorem lw_p35 : lw_okq (⟨"WordOnPost$Worlds", "differenceAt", "(II)I"⟩, 12) := ⟨⟨by decide +kernel, by decide +kernel⟩, List.mem_of_getElem? (i := 24) (by decide +kernel), List.mem_of_getElem? (i := 822) (by decide +kernel), List.mem_of_getElem? (i := 823) (by decide +kernel)⟩
theorem lw_p36 : lw_okq (⟨"WordOnPost", "worse", "()I"⟩, 12) := ⟨⟨by decide +kernel, by decide +kernel⟩, List.mem_of_getElem? (i := 16) (by decide +kernel), List.mem_of_getElem? (i := 838) (by decide +kernel), List.mem_of_getElem? (i := 839) (by decide +kernel)⟩
theorem lw_p37 : lw_okq (⟨"WordOnPost$Ship", "soonest", "()I"⟩, 2) := ⟨⟨by decide +kernel, by decide +kernel⟩, List.mem_of_getElem? (i := 354) (by decide +kernel), List.mem_of_getElem? (i := 872) (by decide +kernel), List.mem_of_getElem? (i := 873) (by decide +kernel)⟩
theorem lw_p38 : lw_okq (⟨"WordOnPost$Ship", "sailOnFrom", "(LWordOnPost$State;I)V"⟩, 2) := ⟨⟨by decide +kernel, by decide +kernel⟩, List.mem_of_getElem? (i := 354) (by decide +kernel), List.mem_of_getElem? (i := 876) (by decide +kernel), List.mem_of_getElem? (i := 877) (by decide +kernel)⟩
theorem lw_p39 : lw_okq (⟨"WordOnPost", "partOf", "(I)I"⟩, 12) := ⟨⟨by decide +kernel, by decide +kernel⟩, List.mem_of_getElem? (i := 16) (by decide +kernel), List.mem_of_getElem? (i := 891) (by decide +kernel), List.mem_of_getElem? (i := 892) (by decide +kernel)⟩
theorem lw_p40 : lw_okq (⟨"WordOnPostModel", "set", "(IJ)V"⟩, 21) := ⟨⟨by decide +kernel, by decide +kernel⟩, List.mem_of_getElem? (i := 951) (by decide +kernel), List.mem_of_getElem? (i := 957) (by decide +kernel), List.mem_of_getElem? (i := 958) (by decide +kernel)⟩
theorem lw_p41 : lw_okq (⟨"WordOnPostModel", "bad", "(I)I"⟩, 21) := ⟨⟨by decide +kernel, by decide +kernel⟩, List.mem_of_getElem? (i := 951) (by decide +kernel), List.mem_of_getElem? (i := 1035) (by decide +kernel), List.mem_of_getElem? (i := 1036) (by decide +kernel)⟩
theorem lw_p42 : lw_okq (⟨"WordOnPostModel", "places", "()I"⟩, 21) := ⟨⟨by decide +kernel, by decide +kernel⟩, List.mem_of_getElem? (i := 951) (by decide +kernel), List.mem_of_getElem? (i := 1039) (by decide +kernel), List.mem_of_getElem? (i := 1040) (by decide +kernel)⟩
theorem lw_p43 : lw_okq (⟨"WordOnPostModel", "full", "()I"⟩, 21) := ⟨⟨by decide +kernel, by decide +kernel⟩, List.mem_of_getElem? (i := 951) (by decide +kernel), List.mem_of_getElem? (i := 1043) (by decide +kernel), List.mem_of_getElem? (i := 1044) (by decide +kernel)⟩
theorem lw_p44 : lw_okq (⟨"WordOnPostModel", "lots", "()I"⟩, 21) := ⟨⟨by decide +kernel, by decide +kernel⟩, List.mem_of_getElem? (i := 951) (by decide +kernel), List.mem_of_getElem? (i := 1057) (by decide +kernel), List.mem_of_getElem? (i := 1058) (by decide +kernel)⟩
theorem lw_p45 : lw_okq (⟨"WordOnPostModel", "textLong", "(I)I"⟩, 21) := ⟨⟨by decide +kernel, by decide +kernel⟩, List.mem_of_getElem? (i := 951) (by decide +kernel), List.mem_of_getElem? (i := 1083) (by decide +kernel), List.mem_of_getElem? (i := 1084) (by decide +kernel)⟩
theorem lw_p46 : lw_okq (⟨"WordOnPostModel", "readsStory", "(I)Z"⟩, 21) := ⟨⟨by decide +kernel, by decide +kernel⟩, List.mem_of_getElem? (i := 951) (by decide +kernel), List.mem_of_getElem? (i := 1096) (by decide +kernel), List.mem_of_getElem? (i := 1097) (by decide +kernel)⟩
theorem lw_p47 : lw_okq (⟨"WordOnPostModel", "layFrom", "(II)V"⟩, 21) := ⟨⟨by decide +kernel, by decide +kernel⟩, List.mem_of_getElem? (i := 951) (by decide +kernel), List.mem_of_getElem? (i := 1100) (by decide +kernel), List.mem_of_getElem? (i := 1101) (by decide +kernel)⟩
def lw_privs_3 : List (MethodName × Nat) := [(⟨"WordOnPost$Big", "topTwo", "()J"⟩, 2), (⟨"WordOnPost$Big", "takeAway", "(LWordOnPost$Big;JI)V"⟩, 2), (⟨"WordOnPost$Big", "raise", "(II)V"⟩, 2), (⟨"WordOnPost$Worlds", "differenceAt", "(II)I"⟩, 12), (⟨"WordOnPost", "worse", "()I"⟩, 12), (⟨"WordOnPost$Ship", "soonest", "()I"⟩, 2), (⟨"WordOnPost$Ship", "sailOnFrom", "(LWordOnPost$State;I)V"⟩, 2), (⟨"WordOnPost", "partOf", "(I)I"⟩, 12), (⟨"WordOnPostModel", "set", "(IJ)V"⟩, 21), (⟨"WordOnPostModel", "bad", "(I)I"⟩, 21), (⟨"WordOnPostModel", "places", "()I"⟩, 21), (⟨"WordOnPostModel", "full", "()I"⟩, 21), (⟨"WordOnPostModel", "lots", "()I"⟩, 21), (⟨"WordOnPostModel", "textLong", "(I)I"⟩, 21), (⟨"WordOnPostModel", "readsStory", "(I)Z"⟩, 21), (⟨"WordOnPostModel", "layFrom", "(II)V"⟩, 21)]
theorem lw_r3 : ∀ q ∈ lw_privs_3, lw_okq q := List.forall_mem_cons.mpr ⟨lw_p32, List.forall_mem_cons.mpr ⟨lw_p33, List.forall_mem_cons.mpr ⟨lw_p34, List.forall_mem_cons.mpr ⟨lw_p35, List.forall_mem_cons.mpr ⟨lw_p36, List.forall_mem_cons.mpr ⟨lw_p37, List.forall_mem_cons.mpr ⟨lw_p38, List.forall_mem_cons.mpr ⟨lw_p39, List.forall_mem_cons.mpr ⟨lw_p40, List.forall_mem_cons.mpr ⟨lw_p41, List.forall_mem_cons.mpr ⟨lw_p42, List.forall_mem_cons.mpr ⟨lw_p43, List.forall_mem_cons.mpr ⟨lw_p44, List.forall_mem_cons.mpr ⟨lw_p45, List.forall_mem_cons.mpr ⟨lw_p46, List.forall_mem_cons.mpr ⟨lw_p47, fun _ h => absurd h List.not_mem_nil⟩⟩⟩⟩⟩⟩⟩⟩⟩⟩⟩⟩⟩⟩⟩⟩
theorem lw_p48 : lw_okq (⟨"WordOnPostModel", "look", "(I)V"⟩, 21) := ⟨⟨by decide +kernel, by decide +kernel⟩, List.mem_of_getElem? (i := 951) (by decide +kernel), List.mem_of_getElem? (i := 1104) (by decide +kernel), List.mem_of_getElem? (i := 1105) (by decide +kernel)⟩
theorem lw_p49 : lw_okq (⟨"WordOnPostModel", "byteAt", "(II)I"⟩, 21) := ⟨⟨by decide +kernel, by decide +kernel⟩, List.mem_of_getElem? (i := 951) (by decide +kernel), List.mem_of_getElem? (i := 1108) (by decide +kernel), List.mem_of_getElem? (i := 1109) (by decide +kernel)⟩
theorem lw_p50 : lw_okq (⟨"WordOnPostModel", "readItem", "()Z"⟩, 21) := ⟨⟨by decide +kernel, by decide +kernel⟩, List.mem_of_getElem? (i := 951) (by decide +kernel), List.mem_of_getElem? (i := 1122) (by decide +kernel), List.mem_of_getElem? (i := 1123) (by decide +kernel)⟩
theorem lw_p51 : lw_okq (⟨"WordOnPostModel", "isWord", "(IIIII)Z"⟩, 21) := ⟨⟨by decide +kernel, by decide +kernel⟩, List.mem_of_getElem? (i := 951) (by decide +kernel), List.mem_of_getElem? (i := 1126) (by decide +kernel), List.mem_of_getElem? (i := 1127) (by decide +kernel)⟩
theorem lw_p52 : lw_okq (⟨"WordOnPostModel", "goOn", "()V"⟩, 21) := ⟨⟨by decide +kernel, by decide +kernel⟩, List.mem_of_getElem? (i := 951) (by decide +kernel), List.mem_of_getElem? (i := 1130) (by decide +kernel), List.mem_of_getElem? (i := 1131) (by decide +kernel)⟩
theorem lw_p53 : lw_okq (⟨"WordOnPostModel", "takesMonth", "()Z"⟩, 21) := ⟨⟨by decide +kernel, by decide +kernel⟩, List.mem_of_getElem? (i := 951) (by decide +kernel), List.mem_of_getElem? (i := 1134) (by decide +kernel), List.mem_of_getElem? (i := 1135) (by decide +kernel)⟩
theorem lw_p54 : lw_okq (⟨"WordOnPostModel", "isPlace", "(I)Z"⟩, 21) := ⟨⟨by decide +kernel, by decide +kernel⟩, List.mem_of_getElem? (i := 951) (by decide +kernel), List.mem_of_getElem? (i := 1139) (by decide +kernel), List.mem_of_getElem? (i := 1140) (by decide +kernel)⟩
theorem lw_p55 : lw_okq (⟨"WordOnPostModel", "stops", "()Z"⟩, 21) := ⟨⟨by decide +kernel, by decide +kernel⟩, List.mem_of_getElem? (i := 951) (by decide +kernel), List.mem_of_getElem? (i := 1143) (by decide +kernel), List.mem_of_getElem? (i := 1144) (by decide +kernel)⟩
theorem lw_p56 : lw_okq (⟨"WordOnPostModel", "isSigned", "(II)Z"⟩, 21) := ⟨⟨by decide +kernel, by decide +kernel⟩, List.mem_of_getElem? (i := 951) (by decide +kernel), List.mem_of_getElem? (i := 1152) (by decide +kernel), List.mem_of_getElem? (i := 1153) (by decide +kernel)⟩
theorem lw_p57 : lw_okq (⟨"WordOnPostModel", "signs", "()I"⟩, 21) := ⟨⟨by decide +kernel, by decide +kernel⟩, List.mem_of_getElem? (i := 951) (by decide +kernel), List.mem_of_getElem? (i := 1156) (by decide +kernel), List.mem_of_getElem? (i := 1157) (by decide +kernel)⟩
theorem lw_p58 : lw_okq (⟨"WordOnPostModel", "isLot", "(I)Z"⟩, 21) := ⟨⟨by decide +kernel, by decide +kernel⟩, List.mem_of_getElem? (i := 951) (by decide +kernel), List.mem_of_getElem? (i := 1169) (by decide +kernel), List.mem_of_getElem? (i := 1170) (by decide +kernel)⟩
theorem lw_p59 : lw_okq (⟨"WordOnPostModel", "isWhere", "(I)Z"⟩, 21) := ⟨⟨by decide +kernel, by decide +kernel⟩, List.mem_of_getElem? (i := 951) (by decide +kernel), List.mem_of_getElem? (i := 1176) (by decide +kernel), List.mem_of_getElem? (i := 1177) (by decide +kernel)⟩
theorem lw_p60 : lw_okq (⟨"WordOnPostModel", "tellers", "()I"⟩, 21) := ⟨⟨by decide +kernel, by decide +kernel⟩, List.mem_of_getElem? (i := 951) (by decide +kernel), List.mem_of_getElem? (i := 1180) (by decide +kernel), List.mem_of_getElem? (i := 1181) (by decide +kernel)⟩
theorem lw_p61 : lw_okq (⟨"WordOnPostModel", "laysOne", "(I)Z"⟩, 21) := ⟨⟨by decide +kernel, by decide +kernel⟩, List.mem_of_getElem? (i := 951) (by decide +kernel), List.mem_of_getElem? (i := 1188) (by decide +kernel), List.mem_of_getElem? (i := 1189) (by decide +kernel)⟩
theorem lw_p62 : lw_okq (⟨"WordOnPostModel", "readAll", "()V"⟩, 21) := ⟨⟨by decide +kernel, by decide +kernel⟩, List.mem_of_getElem? (i := 951) (by decide +kernel), List.mem_of_getElem? (i := 1192) (by decide +kernel), List.mem_of_getElem? (i := 1193) (by decide +kernel)⟩
theorem lw_p63 : lw_okq (⟨"WordOnPostModel", "no", "()I"⟩, 21) := ⟨⟨by decide +kernel, by decide +kernel⟩, List.mem_of_getElem? (i := 951) (by decide +kernel), List.mem_of_getElem? (i := 1196) (by decide +kernel), List.mem_of_getElem? (i := 1197) (by decide +kernel)⟩
def lw_privs_4 : List (MethodName × Nat) := [(⟨"WordOnPostModel", "look", "(I)V"⟩, 21), (⟨"WordOnPostModel", "byteAt", "(II)I"⟩, 21), (⟨"WordOnPostModel", "readItem", "()Z"⟩, 21), (⟨"WordOnPostModel", "isWord", "(IIIII)Z"⟩, 21), (⟨"WordOnPostModel", "goOn", "()V"⟩, 21), (⟨"WordOnPostModel", "takesMonth", "()Z"⟩, 21), (⟨"WordOnPostModel", "isPlace", "(I)Z"⟩, 21), (⟨"WordOnPostModel", "stops", "()Z"⟩, 21), (⟨"WordOnPostModel", "isSigned", "(II)Z"⟩, 21), (⟨"WordOnPostModel", "signs", "()I"⟩, 21), (⟨"WordOnPostModel", "isLot", "(I)Z"⟩, 21), (⟨"WordOnPostModel", "isWhere", "(I)Z"⟩, 21), (⟨"WordOnPostModel", "tellers", "()I"⟩, 21), (⟨"WordOnPostModel", "laysOne", "(I)Z"⟩, 21), (⟨"WordOnPostModel", "readAll", "()V"⟩, 21), (⟨"WordOnPostModel", "no", "()I"⟩, 21)]
theorem lw_r4 : ∀ q ∈ lw_privs_4, lw_okq q := List.forall_mem_cons.mpr ⟨lw_p48, List.forall_mem_cons.mpr ⟨lw_p49, List.forall_mem_cons.mpr ⟨lw_p50, List.forall_mem_cons.mpr ⟨lw_p51, List.forall_mem_cons.mpr ⟨lw_p52, List.forall_mem_cons.mpr ⟨lw_p53, List.forall_mem_cons.mpr ⟨lw_p54, List.forall_mem_cons.mpr ⟨lw_p55, List.forall_mem_cons.mpr ⟨lw_p56, List.forall_mem_cons.mpr ⟨lw_p57, List.forall_mem_cons.mpr ⟨lw_p58, List.forall_mem_cons.mpr ⟨lw_p59, List.forall_mem_cons.mpr ⟨lw_p60, List.forall_mem_cons.mpr ⟨lw_p61, List.forall_mem_cons.mpr ⟨lw_p62, List.forall_mem_cons.mpr ⟨lw_p63, fun _ h => absurd h List.not_mem_nil⟩⟩⟩⟩⟩⟩⟩⟩⟩⟩⟩⟩⟩⟩⟩⟩
theorem lw_p64 : lw_okq (⟨"WordOnPostModel", "leftOf", "(II)I"⟩, 21) := ⟨⟨by decide +kernel, by decide +kernel⟩, List.mem_of_getElem? (i := 951) (by decide +kernel), List.mem_of_getElem? (i := 1204) (by decide +kernel), List.mem_of_getElem? (i := 1205) (by decide +kernel)⟩
theorem lw_p65 : lw_okq (⟨"WordOnPostModel", "whereOf", "(II)I"⟩, 21) := ⟨⟨by decide +kernel, by decide +kernel⟩, List.mem_of_getElem? (i := 951) (by decide +kernel), List.mem_of_getElem? (i := 1208) (by decide +kernel), List.mem_of_getElem? (i := 1209) (by decide +kernel)⟩
theorem lw_p66 : lw_okq (⟨"WordOnPostModel", "hungerOf", "()I"⟩, 21) := ⟨⟨by decide +kernel, by decide +kernel⟩, List.mem_of_getElem? (i := 951) (by decide +kernel), List.mem_of_getElem? (i := 1216) (by decide +kernel), List.mem_of_getElem? (i := 1217) (by decide +kernel)⟩
theorem lw_p67 : lw_okq (⟨"WordOnPostModel", "isHungry", "(II)Z"⟩, 21) := ⟨⟨by decide +kernel, by decide +kernel⟩, List.mem_of_getElem? (i := 951) (by decide +kernel), List.mem_of_getElem? (i := 1220) (by decide +kernel), List.mem_of_getElem? (i := 1221) (by decide +kernel)⟩
theorem lw_p68 : lw_okq (⟨"WordOnPostModel", "fedOf", "(II)I"⟩, 21) := ⟨⟨by decide +kernel, by decide +kernel⟩, List.mem_of_getElem? (i := 951) (by decide +kernel), List.mem_of_getElem? (i := 1224) (by decide +kernel), List.mem_of_getElem? (i := 1225) (by decide +kernel)⟩
theorem lw_p69 : lw_okq (⟨"WordOnPostModel", "tellsShare", "(IIII)I"⟩, 21) := ⟨⟨by decide +kernel, by decide +kernel⟩, List.mem_of_getElem? (i := 951) (by decide +kernel), List.mem_of_getElem? (i := 1232) (by decide +kernel), List.mem_of_getElem? (i := 1233) (by decide +kernel)⟩
theorem lw_p70 : lw_okq (⟨"WordOnPostModel", "sumsUp", "(IIII)Z"⟩, 21) := ⟨⟨by decide +kernel, by decide +kernel⟩, List.mem_of_getElem? (i := 951) (by decide +kernel), List.mem_of_getElem? (i := 1236) (by decide +kernel), List.mem_of_getElem? (i := 1237) (by decide +kernel)⟩
theorem lw_p71 : lw_okq (⟨"WordOnPostModel", "worlds", "()I"⟩, 21) := ⟨⟨by decide +kernel, by decide +kernel⟩, List.mem_of_getElem? (i := 951) (by decide +kernel), List.mem_of_getElem? (i := 1240) (by decide +kernel), List.mem_of_getElem? (i := 1241) (by decide +kernel)⟩
theorem lw_p72 : lw_okq (⟨"WordOnPostModel", "laysWorld", "(I)Z"⟩, 21) := ⟨⟨by decide +kernel, by decide +kernel⟩, List.mem_of_getElem? (i := 951) (by decide +kernel), List.mem_of_getElem? (i := 1244) (by decide +kernel), List.mem_of_getElem? (i := 1245) (by decide +kernel)⟩
theorem lw_p73 : lw_okq (⟨"WordOnPostModel", "weigh", "()V"⟩, 21) := ⟨⟨by decide +kernel, by decide +kernel⟩, List.mem_of_getElem? (i := 951) (by decide +kernel), List.mem_of_getElem? (i := 1248) (by decide +kernel), List.mem_of_getElem? (i := 1249) (by decide +kernel)⟩
theorem lw_p74 : lw_okq (⟨"WordOnPostModel", "times", "(IJ)V"⟩, 21) := ⟨⟨by decide +kernel, by decide +kernel⟩, List.mem_of_getElem? (i := 951) (by decide +kernel), List.mem_of_getElem? (i := 1252) (by decide +kernel), List.mem_of_getElem? (i := 1253) (by decide +kernel)⟩
theorem lw_p75 : lw_okq (⟨"WordOnPostModel", "trim", "(I)V"⟩, 21) := ⟨⟨by decide +kernel, by decide +kernel⟩, List.mem_of_getElem? (i := 951) (by decide +kernel), List.mem_of_getElem? (i := 1256) (by decide +kernel), List.mem_of_getElem? (i := 1257) (by decide +kernel)⟩
theorem lw_p76 : lw_okq (⟨"WordOnPostModel", "timesAll", "(IJI)V"⟩, 21) := ⟨⟨by decide +kernel, by decide +kernel⟩, List.mem_of_getElem? (i := 951) (by decide +kernel), List.mem_of_getElem? (i := 1260) (by decide +kernel), List.mem_of_getElem? (i := 1261) (by decide +kernel)⟩
theorem lw_p77 : lw_okq (⟨"WordOnPostModel", "isHeard", "(I)Z"⟩, 21) := ⟨⟨by decide +kernel, by decide +kernel⟩, List.mem_of_getElem? (i := 951) (by decide +kernel), List.mem_of_getElem? (i := 1264) (by decide +kernel), List.mem_of_getElem? (i := 1265) (by decide +kernel)⟩
theorem lw_p78 : lw_okq (⟨"WordOnPostModel", "isSaidSo", "(I)Z"⟩, 21) := ⟨⟨by decide +kernel, by decide +kernel⟩, List.mem_of_getElem? (i := 951) (by decide +kernel), List.mem_of_getElem? (i := 1268) (by decide +kernel), List.mem_of_getElem? (i := 1269) (by decide +kernel)⟩
theorem lw_p79 : lw_okq (⟨"WordOnPostModel", "findSign", "(I)V"⟩, 21) := ⟨⟨by decide +kernel, by decide +kernel⟩, List.mem_of_getElem? (i := 951) (by decide +kernel), List.mem_of_getElem? (i := 1272) (by decide +kernel), List.mem_of_getElem? (i := 1273) (by decide +kernel)⟩
def lw_privs_5 : List (MethodName × Nat) := [(⟨"WordOnPostModel", "leftOf", "(II)I"⟩, 21), (⟨"WordOnPostModel", "whereOf", "(II)I"⟩, 21), (⟨"WordOnPostModel", "hungerOf", "()I"⟩, 21), (⟨"WordOnPostModel", "isHungry", "(II)Z"⟩, 21), (⟨"WordOnPostModel", "fedOf", "(II)I"⟩, 21), (⟨"WordOnPostModel", "tellsShare", "(IIII)I"⟩, 21), (⟨"WordOnPostModel", "sumsUp", "(IIII)Z"⟩, 21), (⟨"WordOnPostModel", "worlds", "()I"⟩, 21), (⟨"WordOnPostModel", "laysWorld", "(I)Z"⟩, 21), (⟨"WordOnPostModel", "weigh", "()V"⟩, 21), (⟨"WordOnPostModel", "times", "(IJ)V"⟩, 21), (⟨"WordOnPostModel", "trim", "(I)V"⟩, 21), (⟨"WordOnPostModel", "timesAll", "(IJI)V"⟩, 21), (⟨"WordOnPostModel", "isHeard", "(I)Z"⟩, 21), (⟨"WordOnPostModel", "isSaidSo", "(I)Z"⟩, 21), (⟨"WordOnPostModel", "findSign", "(I)V"⟩, 21)]
theorem lw_r5 : ∀ q ∈ lw_privs_5, lw_okq q := List.forall_mem_cons.mpr ⟨lw_p64, List.forall_mem_cons.mpr ⟨lw_p65, List.forall_mem_cons.mpr ⟨lw_p66, List.forall_mem_cons.mpr ⟨lw_p67, List.forall_mem_cons.mpr ⟨lw_p68, List.forall_mem_cons.mpr ⟨lw_p69, List.forall_mem_cons.mpr ⟨lw_p70, List.forall_mem_cons.mpr ⟨lw_p71, List.forall_mem_cons.mpr ⟨lw_p72, List.forall_mem_cons.mpr ⟨lw_p73, List.forall_mem_cons.mpr ⟨lw_p74, List.forall_mem_cons.mpr ⟨lw_p75, List.forall_mem_cons.mpr ⟨lw_p76, List.forall_mem_cons.mpr ⟨lw_p77, List.forall_mem_cons.mpr ⟨lw_p78, List.forall_mem_cons.mpr ⟨lw_p79, fun _ h => absurd h List.not_mem_nil⟩⟩⟩⟩⟩⟩⟩⟩⟩⟩⟩⟩⟩⟩⟩⟩
theorem lw_p80 : lw_okq (⟨"WordOnPostModel", "add", "(II)V"⟩, 21) := ⟨⟨by decide +kernel, by decide +kernel⟩, List.mem_of_getElem? (i := 951) (by decide +kernel), List.mem_of_getElem? (i := 1276) (by decide +kernel), List.mem_of_getElem? (i := 1277) (by decide +kernel)⟩
theorem lw_p81 : lw_okq (⟨"WordOnPostModel", "product", "(III)V"⟩, 21) := ⟨⟨by decide +kernel, by decide +kernel⟩, List.mem_of_getElem? (i := 951) (by decide +kernel), List.mem_of_getElem? (i := 1280) (by decide +kernel), List.mem_of_getElem? (i := 1281) (by decide +kernel)⟩
theorem lw_p82 : lw_okq (⟨"WordOnPostModel", "copy", "(II)V"⟩, 21) := ⟨⟨by decide +kernel, by decide +kernel⟩, List.mem_of_getElem? (i := 951) (by decide +kernel), List.mem_of_getElem? (i := 1284) (by decide +kernel), List.mem_of_getElem? (i := 1285) (by decide +kernel)⟩
theorem lw_p83 : lw_okq (⟨"WordOnPostModel", "holds", "(IIII)Z"⟩, 21) := ⟨⟨by decide +kernel, by decide +kernel⟩, List.mem_of_getElem? (i := 951) (by decide +kernel), List.mem_of_getElem? (i := 1288) (by decide +kernel), List.mem_of_getElem? (i := 1289) (by decide +kernel)⟩
theorem lw_p84 : lw_okq (⟨"WordOnPostModel", "tell", "(IIZ)V"⟩, 21) := ⟨⟨by decide +kernel, by decide +kernel⟩, List.mem_of_getElem? (i := 951) (by decide +kernel), List.mem_of_getElem? (i := 1292) (by decide +kernel), List.mem_of_getElem? (i := 1293) (by decide +kernel)⟩
theorem lw_p85 : lw_okq (⟨"WordOnPostModel", "findDivisor", "(II)V"⟩, 21) := ⟨⟨by decide +kernel, by decide +kernel⟩, List.mem_of_getElem? (i := 951) (by decide +kernel), List.mem_of_getElem? (i := 1296) (by decide +kernel), List.mem_of_getElem? (i := 1297) (by decide +kernel)⟩
theorem lw_p86 : lw_okq (⟨"WordOnPostModel", "isEven", "(I)Z"⟩, 21) := ⟨⟨by decide +kernel, by decide +kernel⟩, List.mem_of_getElem? (i := 951) (by decide +kernel), List.mem_of_getElem? (i := 1300) (by decide +kernel), List.mem_of_getElem? (i := 1301) (by decide +kernel)⟩
theorem lw_p87 : lw_okq (⟨"WordOnPostModel", "halve", "(I)V"⟩, 21) := ⟨⟨by decide +kernel, by decide +kernel⟩, List.mem_of_getElem? (i := 951) (by decide +kernel), List.mem_of_getElem? (i := 1305) (by decide +kernel), List.mem_of_getElem? (i := 1306) (by decide +kernel)⟩
theorem lw_p88 : lw_okq (⟨"WordOnPostModel", "compare", "(II)I"⟩, 21) := ⟨⟨by decide +kernel, by decide +kernel⟩, List.mem_of_getElem? (i := 951) (by decide +kernel), List.mem_of_getElem? (i := 1309) (by decide +kernel), List.mem_of_getElem? (i := 1310) (by decide +kernel)⟩
theorem lw_p89 : lw_okq (⟨"WordOnPostModel", "take", "(II)V"⟩, 21) := ⟨⟨by decide +kernel, by decide +kernel⟩, List.mem_of_getElem? (i := 951) (by decide +kernel), List.mem_of_getElem? (i := 1313) (by decide +kernel), List.mem_of_getElem? (i := 1314) (by decide +kernel)⟩
theorem lw_p90 : lw_okq (⟨"WordOnPostModel", "divide", "(I)V"⟩, 21) := ⟨⟨by decide +kernel, by decide +kernel⟩, List.mem_of_getElem? (i := 951) (by decide +kernel), List.mem_of_getElem? (i := 1317) (by decide +kernel), List.mem_of_getElem? (i := 1318) (by decide +kernel)⟩
theorem lw_p91 : lw_okq (⟨"WordOnPostModel", "addOne", "()V"⟩, 21) := ⟨⟨by decide +kernel, by decide +kernel⟩, List.mem_of_getElem? (i := 951) (by decide +kernel), List.mem_of_getElem? (i := 1321) (by decide +kernel), List.mem_of_getElem? (i := 1322) (by decide +kernel)⟩
theorem lw_p92 : lw_okq (⟨"WordOnPostModel", "differs", "(II)I"⟩, 21) := ⟨⟨by decide +kernel, by decide +kernel⟩, List.mem_of_getElem? (i := 951) (by decide +kernel), List.mem_of_getElem? (i := 1345) (by decide +kernel), List.mem_of_getElem? (i := 1346) (by decide +kernel)⟩
theorem lw_p93 : lw_okq (⟨"WordOnPostModel", "tells", "(JJ)I"⟩, 21) := ⟨⟨by decide +kernel, by decide +kernel⟩, List.mem_of_getElem? (i := 951) (by decide +kernel), List.mem_of_getElem? (i := 1374) (by decide +kernel), List.mem_of_getElem? (i := 1375) (by decide +kernel)⟩
theorem lw_p94 : lw_okq (⟨"WordOnPostModel", "sailsTo", "(III)I"⟩, 21) := ⟨⟨by decide +kernel, by decide +kernel⟩, List.mem_of_getElem? (i := 951) (by decide +kernel), List.mem_of_getElem? (i := 1394) (by decide +kernel), List.mem_of_getElem? (i := 1395) (by decide +kernel)⟩
theorem lw_p95 : lw_okq (⟨"WordOnPostModel", "dayBehind", "(II)I"⟩, 21) := ⟨⟨by decide +kernel, by decide +kernel⟩, List.mem_of_getElem? (i := 951) (by decide +kernel), List.mem_of_getElem? (i := 1398) (by decide +kernel), List.mem_of_getElem? (i := 1399) (by decide +kernel)⟩
def lw_privs_6 : List (MethodName × Nat) := [(⟨"WordOnPostModel", "add", "(II)V"⟩, 21), (⟨"WordOnPostModel", "product", "(III)V"⟩, 21), (⟨"WordOnPostModel", "copy", "(II)V"⟩, 21), (⟨"WordOnPostModel", "holds", "(IIII)Z"⟩, 21), (⟨"WordOnPostModel", "tell", "(IIZ)V"⟩, 21), (⟨"WordOnPostModel", "findDivisor", "(II)V"⟩, 21), (⟨"WordOnPostModel", "isEven", "(I)Z"⟩, 21), (⟨"WordOnPostModel", "halve", "(I)V"⟩, 21), (⟨"WordOnPostModel", "compare", "(II)I"⟩, 21), (⟨"WordOnPostModel", "take", "(II)V"⟩, 21), (⟨"WordOnPostModel", "divide", "(I)V"⟩, 21), (⟨"WordOnPostModel", "addOne", "()V"⟩, 21), (⟨"WordOnPostModel", "differs", "(II)I"⟩, 21), (⟨"WordOnPostModel", "tells", "(JJ)I"⟩, 21), (⟨"WordOnPostModel", "sailsTo", "(III)I"⟩, 21), (⟨"WordOnPostModel", "dayBehind", "(II)I"⟩, 21)]
theorem lw_r6 : ∀ q ∈ lw_privs_6, lw_okq q := List.forall_mem_cons.mpr ⟨lw_p80, List.forall_mem_cons.mpr ⟨lw_p81, List.forall_mem_cons.mpr ⟨lw_p82, List.forall_mem_cons.mpr ⟨lw_p83, List.forall_mem_cons.mpr ⟨lw_p84, List.forall_mem_cons.mpr ⟨lw_p85, List.forall_mem_cons.mpr ⟨lw_p86, List.forall_mem_cons.mpr ⟨lw_p87, List.forall_mem_cons.mpr ⟨lw_p88, List.forall_mem_cons.mpr ⟨lw_p89, List.forall_mem_cons.mpr ⟨lw_p90, List.forall_mem_cons.mpr ⟨lw_p91, List.forall_mem_cons.mpr ⟨lw_p92, List.forall_mem_cons.mpr ⟨lw_p93, List.forall_mem_cons.mpr ⟨lw_p94, List.forall_mem_cons.mpr ⟨lw_p95, fun _ h => absurd h List.not_mem_nil⟩⟩⟩⟩⟩⟩⟩⟩⟩⟩⟩⟩⟩⟩⟩⟩
theorem lw_p96 : lw_okq (⟨"WordOnPostModel", "counted", "(I)I"⟩, 21) := ⟨⟨by decide +kernel, by decide +kernel⟩, List.mem_of_getElem? (i := 951) (by decide +kernel), List.mem_of_getElem? (i := 1431) (by decide +kernel), List.mem_of_getElem? (i := 1432) (by decide +kernel)⟩
theorem lw_p97 : lw_okq (⟨"WordOnPostModel", "sums", "(JII)J"⟩, 21) := ⟨⟨by decide +kernel, by decide +kernel⟩, List.mem_of_getElem? (i := 951) (by decide +kernel), List.mem_of_getElem? (i := 1441) (by decide +kernel), List.mem_of_getElem? (i := 1442) (by decide +kernel)⟩
def lw_privs_7 : List (MethodName × Nat) := [(⟨"WordOnPostModel", "counted", "(I)I"⟩, 21), (⟨"WordOnPostModel", "sums", "(JII)J"⟩, 21)]
theorem lw_r7 : ∀ q ∈ lw_privs_7, lw_okq q := List.forall_mem_cons.mpr ⟨lw_p96, List.forall_mem_cons.mpr ⟨lw_p97, fun _ h => absurd h List.not_mem_nil⟩⟩
def lw_privs : List (MethodName × Nat) := lw_privs_1 ++ (lw_privs_2 ++ (lw_privs_3 ++ (lw_privs_4 ++ (lw_privs_5 ++ (lw_privs_6 ++ (lw_privs_7))))))
def lw_tbl : List Cond := k2_sels lw_privs ++ tables_1
theorem lw_privs_ok : ∀ q ∈ lw_privs, lw_okq q := by
  show ∀ q ∈ lw_privs_1 ++ (lw_privs_2 ++ (lw_privs_3 ++ (lw_privs_4 ++ (lw_privs_5 ++ (lw_privs_6 ++ (lw_privs_7)))))), lw_okq q
  exact List.forall_mem_append.mpr ⟨lw_r1, List.forall_mem_append.mpr ⟨lw_r2, List.forall_mem_append.mpr ⟨lw_r3, List.forall_mem_append.mpr ⟨lw_r4, List.forall_mem_append.mpr ⟨lw_r5, List.forall_mem_append.mpr ⟨lw_r6, lw_r7⟩⟩⟩⟩⟩⟩
/-! words of one list -/
def gW : List Cond := lw_tbl.filter goodWord
theorem gW_of {w : Cond} (i : Nat) (h : lw_tbl[i]? = some w) (hg : goodWord w = true) : w ∈ gW := List.mem_filter.mpr ⟨List.mem_of_getElem? h, hg⟩
theorem gW_good : GoodIn gW gW := fun w h => ⟨h, good_of_word (List.mem_filter.mp h).2⟩
def RX0 : String := "WordOnPost$Big"
def TX0 : u_T := fun k => match k with
  | 0 => ("WordOnPost$Big", "digits", "[I", true)
  | _ => ("WordOnPost$Big", "size", "I", false)
def tyX0 : Nat → FieldType := fun k => match k with
  | 0 => .array .int
  | _ => .int
abbrev wsX00 : List Cond := u_ws RX0 TX0 2
theorem nmX0 : ∀ a, a < 2 → ∀ b, b < 2 → a ≠ b → (TX0 a).2.1 ≠ (TX0 b).2.1 := by decide +kernel
theorem tyX0_ok : ∀ k, k < 2 → parseFieldDescriptor (TX0 k).2.2.1 = some (tyX0 k) := by decide +kernel
def RX1 : String := "WordOnPost$Chances"
def TX1 : u_T := fun k => match k with
  | 0 => ("WordOnPost$Chances", "table", "[LWordOnPost$Big;", true)
  | 1 => ("WordOnPost$Chances", "byFound", "[LWordOnPost$Big;", true)
  | 2 => ("WordOnPost$Chances", "dugUp", "LWordOnPost$Big;", true)
  | _ => ("WordOnPost$Chances", "keys", "[I", true)
def tyX1 : Nat → FieldType := fun k => match k with
  | 0 => .array (.object "WordOnPost$Big")
  | 1 => .array (.object "WordOnPost$Big")
  | 2 => .object "WordOnPost$Big"
  | _ => .array .int
abbrev wsX10 : List Cond := u_ws RX1 TX1 4
theorem nmX1 : ∀ a, a < 4 → ∀ b, b < 4 → a ≠ b → (TX1 a).2.1 ≠ (TX1 b).2.1 := by decide +kernel
theorem tyX1_ok : ∀ k, k < 4 → parseFieldDescriptor (TX1 k).2.2.1 = some (tyX1 k) := by decide +kernel
def RX2 : String := "WordOnPost$Fraction"
def TX2 : u_T := fun k => match k with
  | 0 => ("WordOnPost$Fraction", "above", "LWordOnPost$Big;", true)
  | 1 => ("WordOnPost$Fraction", "below", "LWordOnPost$Big;", true)
  | 2 => ("WordOnPost$Fraction", "quotient", "LWordOnPost$Big;", true)
  | 3 => ("WordOnPost$Fraction", "greater", "LWordOnPost$Big;", false)
  | _ => ("WordOnPost$Fraction", "lesser", "LWordOnPost$Big;", false)
def tyX2 : Nat → FieldType := fun k => match k with
  | 0 => .object "WordOnPost$Big"
  | 1 => .object "WordOnPost$Big"
  | 2 => .object "WordOnPost$Big"
  | 3 => .object "WordOnPost$Big"
  | _ => .object "WordOnPost$Big"
abbrev wsX20 : List Cond := u_ws RX2 TX2 5
theorem nmX2 : ∀ a, a < 5 → ∀ b, b < 5 → a ≠ b → (TX2 a).2.1 ≠ (TX2 b).2.1 := by decide +kernel
theorem tyX2_ok : ∀ k, k < 5 → parseFieldDescriptor (TX2 k).2.2.1 = some (tyX2 k) := by decide +kernel
def RX3 : String := "WordOnPost$Lives"
def TX3 : u_T := fun k => match k with
  | 0 => ("WordOnPost$Lives", "now", "LWordOnPost$State;", true)
  | 1 => ("WordOnPost$Lives", "tokens", "LWordOnPost$Tokens;", true)
  | 2 => ("WordOnPost$Lives", "tales", "[LWordOnPost$Tale;", true)
  | 3 => ("WordOnPost$Lives", "choice", "[I", true)
  | 4 => ("WordOnPost$Lives", "turns", "[I", true)
  | 5 => ("WordOnPost$Lives", "turnCount", "I", false)
  | 6 => ("WordOnPost$Lives", "heads", "[I", true)
  | 7 => ("WordOnPost$Lives", "hungry", "[I", true)
  | 8 => ("WordOnPost$Lives", "feeds", "[[I", true)
  | _ => ("WordOnPost$Lives", "fresh", "Z", false)
def tyX3 : Nat → FieldType := fun k => match k with
  | 0 => .object "WordOnPost$State"
  | 1 => .object "WordOnPost$Tokens"
  | 2 => .array (.object "WordOnPost$Tale")
  | 3 => .array .int
  | 4 => .array .int
  | 5 => .int
  | 6 => .array .int
  | 7 => .array .int
  | 8 => .array (.array .int)
  | _ => .boolean
abbrev wsX30 : List Cond := u_ws RX3 TX3 10
theorem nmX3 : ∀ a, a < 10 → ∀ b, b < 10 → a ≠ b → (TX3 a).2.1 ≠ (TX3 b).2.1 := by decide +kernel
theorem tyX3_ok : ∀ k, k < 10 → parseFieldDescriptor (TX3 k).2.2.1 = some (tyX3 k) := by decide +kernel
def RX4 : String := "WordOnPost$Ship"
def TX4 : u_T := fun k => match k with
  | 0 => ("WordOnPost$Ship", "firstDay", "[I", true)
  | _ => ("WordOnPost$Ship", "settled", "[I", true)
def tyX4 : Nat → FieldType := fun k => match k with
  | 0 => .array .int
  | _ => .array .int
abbrev wsX40 : List Cond := u_ws RX4 TX4 2
theorem nmX4 : ∀ a, a < 2 → ∀ b, b < 2 → a ≠ b → (TX4 a).2.1 ≠ (TX4 b).2.1 := by decide +kernel
theorem tyX4_ok : ∀ k, k < 2 → parseFieldDescriptor (TX4 k).2.2.1 = some (tyX4 k) := by decide +kernel
def RX5 : String := "WordOnPost$State"
def TX5 : u_T := fun k => match k with
  | 0 => ("WordOnPost$State", "places", "I", false)
  | 1 => ("WordOnPost$State", "lots", "I", false)
  | 2 => ("WordOnPost$State", "signs", "I", false)
  | 3 => ("WordOnPost$State", "tellers", "I", false)
  | 4 => ("WordOnPost$State", "feeds", "[I", true)
  | 5 => ("WordOnPost$State", "rains", "[I", true)
  | 6 => ("WordOnPost$State", "people", "[I", true)
  | 7 => ("WordOnPost$State", "puts", "[I", true)
  | 8 => ("WordOnPost$State", "kinds", "[[I", true)
  | 9 => ("WordOnPost$State", "priors", "[I", true)
  | 10 => ("WordOnPost$State", "lengths", "[I", true)
  | 11 => ("WordOnPost$State", "texts", "[[I", true)
  | 12 => ("WordOnPost$State", "signRows", "[[I", true)
  | 13 => ("WordOnPost$State", "post", "[I", true)
  | 14 => ("WordOnPost$State", "tellerRows", "[[I", true)
  | 15 => ("WordOnPost$State", "ways", "[[I", true)
  | _ => ("WordOnPost$State", "storms", "[I", true)
def tyX5 : Nat → FieldType := fun k => match k with
  | 0 => .int
  | 1 => .int
  | 2 => .int
  | 3 => .int
  | 4 => .array .int
  | 5 => .array .int
  | 6 => .array .int
  | 7 => .array .int
  | 8 => .array (.array .int)
  | 9 => .array .int
  | 10 => .array .int
  | 11 => .array (.array .int)
  | 12 => .array (.array .int)
  | 13 => .array .int
  | 14 => .array (.array .int)
  | 15 => .array (.array .int)
  | _ => .array .int
abbrev wsX50 : List Cond := u_ws RX5 TX5 17
theorem nmX5 : ∀ a, a < 17 → ∀ b, b < 17 → a ≠ b → (TX5 a).2.1 ≠ (TX5 b).2.1 := by decide +kernel
theorem tyX5_ok : ∀ k, k < 17 → parseFieldDescriptor (TX5 k).2.2.1 = some (tyX5 k) := by decide +kernel
def RX6 : String := "WordOnPost$Tale"
def TX6 : u_T := fun k => match k with
  | 0 => ("WordOnPost$Tale", "whereabouts", "[I", true)
  | 1 => ("WordOnPost$Tale", "stays", "[I", true)
  | 2 => ("WordOnPost$Tale", "fault", "I", false)
  | 3 => ("WordOnPost$Tale", "word", "I", false)
  | 4 => ("WordOnPost$Tale", "cross", "Z", false)
  | 5 => ("WordOnPost$Tale", "here", "I", false)
  | 6 => ("WordOnPost$Tale", "since", "I", false)
  | _ => ("WordOnPost$Tale", "token", "I", false)
def tyX6 : Nat → FieldType := fun k => match k with
  | 0 => .array .int
  | 1 => .array .int
  | 2 => .int
  | 3 => .int
  | 4 => .boolean
  | 5 => .int
  | 6 => .int
  | _ => .int
abbrev wsX60 : List Cond := u_ws RX6 TX6 8
theorem nmX6 : ∀ a, a < 8 → ∀ b, b < 8 → a ≠ b → (TX6 a).2.1 ≠ (TX6 b).2.1 := by decide +kernel
theorem tyX6_ok : ∀ k, k < 8 → parseFieldDescriptor (TX6 k).2.2.1 = some (tyX6 k) := by decide +kernel
def RX7 : String := "WordOnPost$Tokens"
def TX7 : u_T := fun k => match k with
  | 0 => ("WordOnPost$Tokens", "starts", "[I", true)
  | 1 => ("WordOnPost$Tokens", "tokens", "[I", true)
  | 2 => ("WordOnPost$Tokens", "values", "[I", true)
  | 3 => ("WordOnPost$Tokens", "count", "I", false)
  | _ => ("WordOnPost$Tokens", "ahead", "I", false)
def tyX7 : Nat → FieldType := fun k => match k with
  | 0 => .array .int
  | 1 => .array .int
  | 2 => .array .int
  | 3 => .int
  | _ => .int
abbrev wsX70 : List Cond := u_ws RX7 TX7 5
theorem nmX7 : ∀ a, a < 5 → ∀ b, b < 5 → a ≠ b → (TX7 a).2.1 ≠ (TX7 b).2.1 := by decide +kernel
theorem tyX7_ok : ∀ k, k < 5 → parseFieldDescriptor (TX7 k).2.2.1 = some (tyX7 k) := by decide +kernel
def RX8 : String := "WordOnPost$Worlds"
def TX8 : u_T := fun k => match k with
  | 0 => ("WordOnPost$Worlds", "lives", "LWordOnPost$Lives;", true)
  | 1 => ("WordOnPost$Worlds", "now", "LWordOnPost$State;", true)
  | 2 => ("WordOnPost$Worlds", "chances", "LWordOnPost$Chances;", true)
  | 3 => ("WordOnPost$Worlds", "shares", "[[I", true)
  | 4 => ("WordOnPost$Worlds", "lived", "[LWordOnPost$Big;", true)
  | 5 => ("WordOnPost$Worlds", "gathered", "LWordOnPost$Big;", true)
  | 6 => ("WordOnPost$Worlds", "weight", "LWordOnPost$Big;", false)
  | 7 => ("WordOnPost$Worlds", "spare", "LWordOnPost$Big;", false)
  | 8 => ("WordOnPost$Worlds", "mostHunger", "I", false)
  | 9 => ("WordOnPost$Worlds", "alls", "[LWordOnPost$Big;", true)
  | 10 => ("WordOnPost$Worlds", "total", "LWordOnPost$Big;", true)
  | _ => ("WordOnPost$Worlds", "fresh", "Z", false)
def tyX8 : Nat → FieldType := fun k => match k with
  | 0 => .object "WordOnPost$Lives"
  | 1 => .object "WordOnPost$State"
  | 2 => .object "WordOnPost$Chances"
  | 3 => .array (.array .int)
  | 4 => .array (.object "WordOnPost$Big")
  | 5 => .object "WordOnPost$Big"
  | 6 => .object "WordOnPost$Big"
  | 7 => .object "WordOnPost$Big"
  | 8 => .int
  | 9 => .array (.object "WordOnPost$Big")
  | 10 => .object "WordOnPost$Big"
  | _ => .boolean
abbrev wsX80 : List Cond := u_ws RX8 TX8 12
theorem nmX8 : ∀ a, a < 12 → ∀ b, b < 12 → a ≠ b → (TX8 a).2.1 ≠ (TX8 b).2.1 := by decide +kernel
theorem tyX8_ok : ∀ k, k < 12 → parseFieldDescriptor (TX8 k).2.2.1 = some (tyX8 k) := by decide +kernel
def RX9 : String := "WordOnPost"
def TX9 : u_T := fun k => match k with
  | 0 => ("WordOnPost", "worlds", "LWordOnPost$Worlds;", true)
  | 1 => ("WordOnPost", "lives", "LWordOnPost$Lives;", true)
  | 2 => ("WordOnPost", "now", "LWordOnPost$State;", true)
  | 3 => ("WordOnPost", "images", "[LWordOnPost$State;", true)
  | 4 => ("WordOnPost", "kept", "[Z", true)
  | 5 => ("WordOnPost", "fraction", "LWordOnPost$Fraction;", true)
  | 6 => ("WordOnPost", "ship", "LWordOnPost$Ship;", true)
  | 7 => ("WordOnPost", "stoneForged", "LWordOnPost$Big;", true)
  | 8 => ("WordOnPost", "stoneAny", "LWordOnPost$Big;", true)
  | 9 => ("WordOnPost", "refusedBad", "I", false)
  | 10 => ("WordOnPost", "refusedNo", "I", false)
  | _ => ("WordOnPost", "refusedFull", "I", false)
def tyX9 : Nat → FieldType := fun k => match k with
  | 0 => .object "WordOnPost$Worlds"
  | 1 => .object "WordOnPost$Lives"
  | 2 => .object "WordOnPost$State"
  | 3 => .array (.object "WordOnPost$State")
  | 4 => .array .boolean
  | 5 => .object "WordOnPost$Fraction"
  | 6 => .object "WordOnPost$Ship"
  | 7 => .object "WordOnPost$Big"
  | 8 => .object "WordOnPost$Big"
  | 9 => .int
  | 10 => .int
  | _ => .int
abbrev wsX90 : List Cond := u_ws RX9 TX9 12
theorem nmX9 : ∀ a, a < 12 → ∀ b, b < 12 → a ≠ b → (TX9 a).2.1 ≠ (TX9 b).2.1 := by decide +kernel
theorem tyX9_ok : ∀ k, k < 12 → parseFieldDescriptor (TX9 k).2.2.1 = some (tyX9 k) := by decide +kernel
def RX10 : String := "WordOnPostModel"
def TX10 : u_T := fun k => match k with
  | 0 => ("WordOnPostModel", "now", "[I", true)
  | 1 => ("WordOnPostModel", "kept", "[I", true)
  | 2 => ("WordOnPostModel", "isKept", "[Z", true)
  | 3 => ("WordOnPostModel", "refused", "[I", true)
  | 4 => ("WordOnPostModel", "limbs", "[J", true)
  | 5 => ("WordOnPostModel", "sizes", "[I", true)
  | 6 => ("WordOnPostModel", "sign", "I", false)
  | 7 => ("WordOnPostModel", "story", "I", false)
  | 8 => ("WordOnPostModel", "tokenAt", "I", false)
  | 9 => ("WordOnPostModel", "tokenLong", "I", false)
  | 10 => ("WordOnPostModel", "token", "I", false)
  | 11 => ("WordOnPostModel", "number", "I", false)
  | 12 => ("WordOnPostModel", "stays", "[I", true)
  | 13 => ("WordOnPostModel", "words", "[I", true)
  | 14 => ("WordOnPostModel", "crosses", "[Z", true)
  | 15 => ("WordOnPostModel", "isSound", "[Z", true)
  | 16 => ("WordOnPostModel", "lastMonth", "I", false)
  | 17 => ("WordOnPostModel", "isOver", "Z", false)
  | 18 => ("WordOnPostModel", "lives", "[I", true)
  | 19 => ("WordOnPostModel", "mayAll", "[Z", true)
  | _ => ("WordOnPostModel", "reached", "[I", true)
def tyX10 : Nat → FieldType := fun k => match k with
  | 0 => .array .int
  | 1 => .array .int
  | 2 => .array .boolean
  | 3 => .array .int
  | 4 => .array .long
  | 5 => .array .int
  | 6 => .int
  | 7 => .int
  | 8 => .int
  | 9 => .int
  | 10 => .int
  | 11 => .int
  | 12 => .array .int
  | 13 => .array .int
  | 14 => .array .boolean
  | 15 => .array .boolean
  | 16 => .int
  | 17 => .boolean
  | 18 => .array .int
  | 19 => .array .boolean
  | _ => .array .int
abbrev wsX100 : List Cond := u_ws RX10 TX10 21
theorem nmX10 : ∀ a, a < 21 → ∀ b, b < 21 → a ≠ b → (TX10 a).2.1 ≠ (TX10 b).2.1 := by decide +kernel
theorem tyX10_ok : ∀ k, k < 21 → parseFieldDescriptor (TX10 k).2.2.1 = some (tyX10 k) := by decide +kernel
def RL : String := "WordOnPostLaw"
def RJ7 : String := "java/util/Arrays"
def RJ9 : String := "java/lang/Math"
def RJ10 : String := "java/lang/System"
abbrev vwCl : List vw_C := [(RX0, TX0, 2), (RX1, TX1, 4), (RX2, TX2, 5), (RX3, TX3, 10), (RX4, TX4, 2), (RX5, TX5, 17), (RX6, TX6, 8), (RX7, TX7, 5), (RX8, TX8, 12), (RX9, TX9, 12), (RX10, TX10, 21)]
abbrev cX0_init : ByteArray := prog_2_method_1_code
def yX0_init : MethodName := ⟨RX0, "<init>", "(I)V"⟩
abbrev cX0_isZero : ByteArray := prog_2_method_2_code
def yX0_isZero : MethodName := ⟨RX0, "isZero", "()Z"⟩
abbrev cX0_digit : ByteArray := prog_2_method_3_code
def yX0_digit : MethodName := ⟨RX0, "digit", "(I)I"⟩
abbrev cX0_growTo : ByteArray := prog_2_method_4_code
def yX0_growTo : MethodName := ⟨RX0, "growTo", "(I)V"⟩
abbrev cX0_trim : ByteArray := prog_2_method_5_code
def yX0_trim : MethodName := ⟨RX0, "trim", "()V"⟩
abbrev cX0_become : ByteArray := prog_2_method_6_code
def yX0_become : MethodName := ⟨RX0, "become", "(J)V"⟩
abbrev cX0_copy : ByteArray := prog_2_method_7_code
def yX0_copy : MethodName := ⟨RX0, "copy", "(LWordOnPost$Big;)V"⟩
abbrev cX0_times : ByteArray := prog_2_method_8_code
def yX0_times : MethodName := ⟨RX0, "times", "(I)V"⟩
abbrev cX0_timesPower : ByteArray := prog_2_method_9_code
def yX0_timesPower : MethodName := ⟨RX0, "timesPower", "(II)V"⟩
abbrev cX0_plus : ByteArray := prog_2_method_10_code
def yX0_plus : MethodName := ⟨RX0, "plus", "(LWordOnPost$Big;)V"⟩
abbrev cX0_product : ByteArray := prog_2_method_11_code
def yX0_product : MethodName := ⟨RX0, "product", "(LWordOnPost$Big;LWordOnPost$Big;)V"⟩
abbrev cX0_isBelow : ByteArray := prog_2_method_12_code
def yX0_isBelow : MethodName := ⟨RX0, "isBelow", "(LWordOnPost$Big;)Z"⟩
abbrev cX0_divide : ByteArray := prog_2_method_13_code
def yX0_divide : MethodName := ⟨RX0, "divide", "(LWordOnPost$Big;LWordOnPost$Big;)V"⟩
abbrev cX0_topTwo : ByteArray := prog_2_method_14_code
def yX0_topTwo : MethodName := ⟨RX0, "topTwo", "()J"⟩
abbrev cX0_takeAway : ByteArray := prog_2_method_15_code
def yX0_takeAway : MethodName := ⟨RX0, "takeAway", "(LWordOnPost$Big;JI)V"⟩
abbrev cX0_raise : ByteArray := prog_2_method_16_code
def yX0_raise : MethodName := ⟨RX0, "raise", "(II)V"⟩
abbrev cX1_init : ByteArray := prog_3_method_1_code
def yX1_init : MethodName := ⟨RX1, "<init>", "()V"⟩
abbrev cX1_of : ByteArray := prog_3_method_2_code
def yX1_of : MethodName := ⟨RX1, "of", "(II)LWordOnPost$Big;"⟩
abbrev cX1_refresh : ByteArray := prog_3_method_3_code
def yX1_refresh : MethodName := ⟨RX1, "refresh", "(LWordOnPost$State;)V"⟩
abbrev cX1_weighSign : ByteArray := prog_3_method_4_code
def yX1_weighSign : MethodName := ⟨RX1, "weighSign", "(IIII)V"⟩
abbrev cX1_carry : ByteArray := prog_3_method_5_code
def yX1_carry : MethodName := ⟨RX1, "carry", "(II)V"⟩
abbrev cX2_init : ByteArray := prog_4_method_1_code
def yX2_init : MethodName := ⟨RX2, "<init>", "()V"⟩
abbrev cX2_become : ByteArray := prog_4_method_2_code
def yX2_become : MethodName := ⟨RX2, "become", "(LWordOnPost$Big;LWordOnPost$Big;)V"⟩
abbrev cX2_findDivisor : ByteArray := prog_4_method_3_code
def yX2_findDivisor : MethodName := ⟨RX2, "findDivisor", "()V"⟩
abbrev cX3_init : ByteArray := prog_5_method_1_code
def yX3_init : MethodName := ⟨RX3, "<init>", "()V"⟩
abbrev cX3_refresh : ByteArray := prog_5_method_2_code
def yX3_refresh : MethodName := ⟨RX3, "refresh", "()V"⟩
abbrev cX3_findTurns : ByteArray := prog_5_method_3_code
def yX3_findTurns : MethodName := ⟨RX3, "findTurns", "()V"⟩
abbrev cX3_someoneMoves : ByteArray := prog_5_method_4_code
def yX3_someoneMoves : MethodName := ⟨RX3, "someoneMoves", "(I)Z"⟩
abbrev cX3_allLive : ByteArray := prog_5_method_5_code
def yX3_allLive : MethodName := ⟨RX3, "allLive", "(I)V"⟩
abbrev cX3_choose : ByteArray := prog_5_method_6_code
def yX3_choose : MethodName := ⟨RX3, "choose", "(I)Z"⟩
abbrev cX3_doAllLive : ByteArray := prog_5_method_7_code
def yX3_doAllLive : MethodName := ⟨RX3, "doAllLive", "(I)Z"⟩
abbrev cX3_left : ByteArray := prog_5_method_8_code
def yX3_left : MethodName := ⟨RX3, "left", "(II)I"⟩
abbrev cX3_hungerYears : ByteArray := prog_5_method_9_code
def yX3_hungerYears : MethodName := ⟨RX3, "hungerYears", "()I"⟩
abbrev cX3_countHeads : ByteArray := prog_5_method_10_code
def yX3_countHeads : MethodName := ⟨RX3, "countHeads", "(I)V"⟩
abbrev cX3_mostHunger : ByteArray := prog_5_method_11_code
def yX3_mostHunger : MethodName := ⟨RX3, "mostHunger", "()I"⟩
abbrev cX4_init : ByteArray := prog_6_method_1_code
def yX4_init : MethodName := ⟨RX4, "<init>", "()V"⟩
abbrev cX4_firstDayAt : ByteArray := prog_6_method_2_code
def yX4_firstDayAt : MethodName := ⟨RX4, "firstDayAt", "(LWordOnPost$State;III)I"⟩
abbrev cX4_soonest : ByteArray := prog_6_method_3_code
def yX4_soonest : MethodName := ⟨RX4, "soonest", "()I"⟩
abbrev cX4_sailOnFrom : ByteArray := prog_6_method_4_code
def yX4_sailOnFrom : MethodName := ⟨RX4, "sailOnFrom", "(LWordOnPost$State;I)V"⟩
abbrev cX4_endOfLeg : ByteArray := prog_6_method_5_code
def yX4_endOfLeg : MethodName := ⟨RX4, "endOfLeg", "([III)I"⟩
abbrev cX5_init : ByteArray := prog_7_method_1_code
def yX5_init : MethodName := ⟨RX5, "<init>", "()V"⟩
abbrev cX5_copy : ByteArray := prog_7_method_2_code
def yX5_copy : MethodName := ⟨RX5, "copy", "(LWordOnPost$State;)V"⟩
abbrev cX5_copyRow : ByteArray := prog_7_method_3_code
def yX5_copyRow : MethodName := ⟨RX5, "copyRow", "([I[I)V"⟩
abbrev cX5_copyRows : ByteArray := prog_7_method_4_code
def yX5_copyRows : MethodName := ⟨RX5, "copyRows", "([[I[[I)V"⟩
abbrev cX5_feedsIn : ByteArray := prog_7_method_5_code
def yX5_feedsIn : MethodName := ⟨RX5, "feedsIn", "(II)I"⟩
abbrev cX5_hasSign : ByteArray := prog_7_method_6_code
def yX5_hasSign : MethodName := ⟨RX5, "hasSign", "(II)Z"⟩
abbrev cX5_isHeard : ByteArray := prog_7_method_7_code
def yX5_isHeard : MethodName := ⟨RX5, "isHeard", "(I)Z"⟩
abbrev cX5_countOf : ByteArray := prog_7_method_8_code
def yX5_countOf : MethodName := ⟨RX5, "countOf", "(I)I"⟩
abbrev cX5_digestOnto : ByteArray := prog_7_method_9_code
def yX5_digestOnto : MethodName := ⟨RX5, "digestOnto", "(J)J"⟩
abbrev cX5_digestRows : ByteArray := prog_7_method_10_code
def yX5_digestRows : MethodName := ⟨RX5, "digestRows", "(J[[II)J"⟩
abbrev cX6_init : ByteArray := prog_8_method_1_code
def yX6_init : MethodName := ⟨RX6, "<init>", "()V"⟩
abbrev cX6_read : ByteArray := prog_8_method_2_code
def yX6_read : MethodName := ⟨RX6, "read", "(LWordOnPost$Tokens;I)V"⟩
abbrev cX6_readItem : ByteArray := prog_8_method_3_code
def yX6_readItem : MethodName := ⟨RX6, "readItem", "(LWordOnPost$Tokens;I)Z"⟩
abbrev cX6_mayBegin : ByteArray := prog_8_method_4_code
def yX6_mayBegin : MethodName := ⟨RX6, "mayBegin", "(I)Z"⟩
abbrev cX6_isLeg : ByteArray := prog_8_method_5_code
def yX6_isLeg : MethodName := ⟨RX6, "isLeg", "(I)Z"⟩
abbrev cX6_take : ByteArray := prog_8_method_6_code
def yX6_take : MethodName := ⟨RX6, "take", "(III)V"⟩
abbrev cX6_stayUntil : ByteArray := prog_8_method_7_code
def yX6_stayUntil : MethodName := ⟨RX6, "stayUntil", "(I)V"⟩
abbrev cX7_init : ByteArray := prog_9_method_1_code
def yX7_init : MethodName := ⟨RX7, "<init>", "()V"⟩
abbrev cX7_read : ByteArray := prog_9_method_2_code
def yX7_read : MethodName := ⟨RX7, "read", "([II)V"⟩
abbrev cX7_tokenAt : ByteArray := prog_9_method_3_code
def yX7_tokenAt : MethodName := ⟨RX7, "tokenAt", "(I)I"⟩
abbrev cX7_startAt : ByteArray := prog_9_method_4_code
def yX7_startAt : MethodName := ⟨RX7, "startAt", "(I)I"⟩
abbrev cX7_valueAt : ByteArray := prog_9_method_5_code
def yX7_valueAt : MethodName := ⟨RX7, "valueAt", "(I)I"⟩
abbrev cX7_keep : ByteArray := prog_9_method_6_code
def yX7_keep : MethodName := ⟨RX7, "keep", "(III)V"⟩
abbrev cX7_readLetters : ByteArray := prog_9_method_7_code
def yX7_readLetters : MethodName := ⟨RX7, "readLetters", "([III)V"⟩
abbrev cX7_wordOf : ByteArray := prog_9_method_8_code
def yX7_wordOf : MethodName := ⟨RX7, "wordOf", "(J)I"⟩
abbrev cX7_readFigures : ByteArray := prog_9_method_9_code
def yX7_readFigures : MethodName := ⟨RX7, "readFigures", "([III)V"⟩
abbrev cX7_isLetter : ByteArray := prog_9_method_10_code
def yX7_isLetter : MethodName := ⟨RX7, "isLetter", "(I)Z"⟩
abbrev cX7_isFigure : ByteArray := prog_9_method_11_code
def yX7_isFigure : MethodName := ⟨RX7, "isFigure", "(I)Z"⟩
abbrev cX8_init : ByteArray := prog_10_method_1_code
def yX8_init : MethodName := ⟨RX8, "<init>", "()V"⟩
abbrev cX8_livedBy : ByteArray := prog_10_method_2_code
def yX8_livedBy : MethodName := ⟨RX8, "livedBy", "(II)LWordOnPost$Big;"⟩
abbrev cX8_refresh : ByteArray := prog_10_method_3_code
def yX8_refresh : MethodName := ⟨RX8, "refresh", "()V"⟩
abbrev cX8_forgetSums : ByteArray := prog_10_method_4_code
def yX8_forgetSums : MethodName := ⟨RX8, "forgetSums", "()V"⟩
abbrev cX8_shareOut : ByteArray := prog_10_method_5_code
def yX8_shareOut : MethodName := ⟨RX8, "shareOut", "()V"⟩
abbrev cX8_tellersShare : ByteArray := prog_10_method_6_code
def yX8_tellersShare : MethodName := ⟨RX8, "tellersShare", "(ILWordOnPost$Tale;)I"⟩
abbrev cX8_postShare : ByteArray := prog_10_method_7_code
def yX8_postShare : MethodName := ⟨RX8, "postShare", "(LWordOnPost$Tale;)I"⟩
abbrev cX8_of10 : ByteArray := prog_10_method_8_code
def yX8_of10 : MethodName := ⟨RX8, "of10", "(ZI)I"⟩
abbrev cX8_weigh : ByteArray := prog_10_method_9_code
def yX8_weigh : MethodName := ⟨RX8, "weigh", "()V"⟩
abbrev cX8_addUp : ByteArray := prog_10_method_10_code
def yX8_addUp : MethodName := ⟨RX8, "addUp", "()V"⟩
abbrev cX8_gatherWhere : ByteArray := prog_10_method_11_code
def yX8_gatherWhere : MethodName := ⟨RX8, "gatherWhere", "(III)LWordOnPost$Big;"⟩
abbrev cX8_lostOf : ByteArray := prog_10_method_12_code
def yX8_lostOf : MethodName := ⟨RX8, "lostOf", "(I)I"⟩
abbrev cX8_digNext : ByteArray := prog_10_method_13_code
def yX8_digNext : MethodName := ⟨RX8, "digNext", "()I"⟩
abbrev cX8_differenceAt : ByteArray := prog_10_method_14_code
def yX8_differenceAt : MethodName := ⟨RX8, "differenceAt", "(II)I"⟩
abbrev cX9_init : ByteArray := prog_1_method_1_code
def yX9_init : MethodName := ⟨RX9, "<init>", "()V"⟩
abbrev cX9_place : ByteArray := prog_1_method_2_code
def yX9_place : MethodName := ⟨RX9, "place", "(I)I"⟩
abbrev cX9_rain : ByteArray := prog_1_method_3_code
def yX9_rain : MethodName := ⟨RX9, "rain", "(II)I"⟩
abbrev cX9_lot : ByteArray := prog_1_method_4_code
def yX9_lot : MethodName := ⟨RX9, "lot", "(I)I"⟩
abbrev cX9_put : ByteArray := prog_1_method_5_code
def yX9_put : MethodName := ⟨RX9, "put", "(II)I"⟩
abbrev cX9_kind : ByteArray := prog_1_method_6_code
def yX9_kind : MethodName := ⟨RX9, "kind", "(III)I"⟩
abbrev cX9_prior : ByteArray := prog_1_method_7_code
def yX9_prior : MethodName := ⟨RX9, "prior", "(II)I"⟩
abbrev cX9_type : ByteArray := prog_1_method_8_code
def yX9_type : MethodName := ⟨RX9, "type", "(IJI)I"⟩
abbrev cX9_clear : ByteArray := prog_1_method_9_code
def yX9_clear : MethodName := ⟨RX9, "clear", "(I)I"⟩
abbrev cX9_fault : ByteArray := prog_1_method_10_code
def yX9_fault : MethodName := ⟨RX9, "fault", "(I)I"⟩
abbrev cX9_sign : ByteArray := prog_1_method_11_code
def yX9_sign : MethodName := ⟨RX9, "sign", "(IIII)I"⟩
abbrev cX9_post : ByteArray := prog_1_method_12_code
def yX9_post : MethodName := ⟨RX9, "post", "(IZ)I"⟩
abbrev cX9_teller : ByteArray := prog_1_method_13_code
def yX9_teller : MethodName := ⟨RX9, "teller", "(IIIII)I"⟩
abbrev cX9_at : ByteArray := prog_1_method_14_code
def yX9_at : MethodName := ⟨RX9, "at", "(II)I"⟩
abbrev cX9_must : ByteArray := prog_1_method_15_code
def yX9_must : MethodName := ⟨RX9, "must", "(III)I"⟩
abbrev cX9_hunger : ByteArray := prog_1_method_16_code
def yX9_hunger : MethodName := ⟨RX9, "hunger", "(I)I"⟩
abbrev cX9_odds : ByteArray := prog_1_method_17_code
def yX9_odds : MethodName := ⟨RX9, "odds", "(II)I"⟩
abbrev cX9_all : ByteArray := prog_1_method_18_code
def yX9_all : MethodName := ⟨RX9, "all", "(I)I"⟩
abbrev cX9_where : ByteArray := prog_1_method_19_code
def yX9_where : MethodName := ⟨RX9, "where", "(III)I"⟩
abbrev cX9_so : ByteArray := prog_1_method_20_code
def yX9_so : MethodName := ⟨RX9, "so", "(I)I"⟩
abbrev cX9_lost : ByteArray := prog_1_method_21_code
def yX9_lost : MethodName := ⟨RX9, "lost", "(I)I"⟩
abbrev cX9_next : ByteArray := prog_1_method_22_code
def yX9_next : MethodName := ⟨RX9, "next", "()I"⟩
abbrev cX9_fed : ByteArray := prog_1_method_23_code
def yX9_fed : MethodName := ⟨RX9, "fed", "(II)I"⟩
abbrev cX9_dry : ByteArray := prog_1_method_24_code
def yX9_dry : MethodName := ⟨RX9, "dry", "(III)I"⟩
abbrev cX9_many : ByteArray := prog_1_method_25_code
def yX9_many : MethodName := ⟨RX9, "many", "(IIII)I"⟩
abbrev cX9_stone : ByteArray := prog_1_method_26_code
def yX9_stone : MethodName := ⟨RX9, "stone", "(IIIII)I"⟩
abbrev cX9_days : ByteArray := prog_1_method_27_code
def yX9_days : MethodName := ⟨RX9, "days", "(III)I"⟩
abbrev cX9_storm : ByteArray := prog_1_method_28_code
def yX9_storm : MethodName := ⟨RX9, "storm", "(IZ)I"⟩
abbrev cX9_sails : ByteArray := prog_1_method_29_code
def yX9_sails : MethodName := ⟨RX9, "sails", "(III)I"⟩
abbrev cX9_back : ByteArray := prog_1_method_30_code
def yX9_back : MethodName := ⟨RX9, "back", "(IIIII)I"⟩
abbrev cX9_part : ByteArray := prog_1_method_31_code
def yX9_part : MethodName := ⟨RX9, "part", "(I)I"⟩
abbrev cX9_limb : ByteArray := prog_1_method_32_code
def yX9_limb : MethodName := ⟨RX9, "limb", "(II)I"⟩
abbrev cX9_image : ByteArray := prog_1_method_33_code
def yX9_image : MethodName := ⟨RX9, "image", "(I)I"⟩
abbrev cX9_from : ByteArray := prog_1_method_34_code
def yX9_from : MethodName := ⟨RX9, "from", "(I)I"⟩
abbrev cX9_status : ByteArray := prog_1_method_35_code
def yX9_status : MethodName := ⟨RX9, "status", "(I)I"⟩
abbrev cX9_count : ByteArray := prog_1_method_36_code
def yX9_count : MethodName := ⟨RX9, "count", "(I)I"⟩
abbrev cX9_digest : ByteArray := prog_1_method_37_code
def yX9_digest : MethodName := ⟨RX9, "digest", "()J"⟩
abbrev cX9_bad : ByteArray := prog_1_method_38_code
def yX9_bad : MethodName := ⟨RX9, "bad", "()I"⟩
abbrev cX9_worse : ByteArray := prog_1_method_39_code
def yX9_worse : MethodName := ⟨RX9, "worse", "()I"⟩
abbrev cX9_no : ByteArray := prog_1_method_40_code
def yX9_no : MethodName := ⟨RX9, "no", "()I"⟩
abbrev cX9_full : ByteArray := prog_1_method_41_code
def yX9_full : MethodName := ⟨RX9, "full", "()I"⟩
abbrev cX9_outside : ByteArray := prog_1_method_42_code
def yX9_outside : MethodName := ⟨RX9, "outside", "(III)Z"⟩
abbrev cX9_noPlace : ByteArray := prog_1_method_43_code
def yX9_noPlace : MethodName := ⟨RX9, "noPlace", "(I)Z"⟩
abbrev cX9_noLot : ByteArray := prog_1_method_44_code
def yX9_noLot : MethodName := ⟨RX9, "noLot", "(I)Z"⟩
abbrev cX9_noWhere : ByteArray := prog_1_method_45_code
def yX9_noWhere : MethodName := ⟨RX9, "noWhere", "(I)Z"⟩
abbrev cX9_noStory : ByteArray := prog_1_method_46_code
def yX9_noStory : MethodName := ⟨RX9, "noStory", "(I)Z"⟩
abbrev cX9_noKind : ByteArray := prog_1_method_47_code
def yX9_noKind : MethodName := ⟨RX9, "noKind", "(I)Z"⟩
abbrev cX9_noMonth : ByteArray := prog_1_method_48_code
def yX9_noMonth : MethodName := ⟨RX9, "noMonth", "(I)Z"⟩
abbrev cX9_changed : ByteArray := prog_1_method_49_code
def yX9_changed : MethodName := ⟨RX9, "changed", "()V"⟩
abbrev cX9_exchange : ByteArray := prog_1_method_50_code
def yX9_exchange : MethodName := ⟨RX9, "exchange", "([III)I"⟩
abbrev cX9_hasFault : ByteArray := prog_1_method_51_code
def yX9_hasFault : MethodName := ⟨RX9, "hasFault", "(I)Z"⟩
abbrev cX9_noWorlds : ByteArray := prog_1_method_52_code
def yX9_noWorlds : MethodName := ⟨RX9, "noWorlds", "()Z"⟩
abbrev cX9_answerShare : ByteArray := prog_1_method_53_code
def yX9_answerShare : MethodName := ⟨RX9, "answerShare", "(LWordOnPost$Big;)I"⟩
abbrev cX9_partOf : ByteArray := prog_1_method_54_code
def yX9_partOf : MethodName := ⟨RX9, "partOf", "(I)I"⟩
abbrev cX9_rightLetters : ByteArray := prog_1_method_55_code
def yX9_rightLetters : MethodName := ⟨RX9, "rightLetters", "(III)J"⟩
abbrev cX9_digestRow : ByteArray := prog_1_method_56_code
def yX9_digestRow : MethodName := ⟨RX9, "digestRow", "(J[II)J"⟩
abbrev cX10_init : ByteArray := prog_12_method_1_code
def yX10_init : MethodName := ⟨RX10, "<init>", "()V"⟩
abbrev cX10_in : ByteArray := prog_12_method_3_code
def yX10_in : MethodName := ⟨RX10, "in", "(JJJ)Z"⟩
abbrev cX10_bad : ByteArray := prog_12_method_4_code
def yX10_bad : MethodName := ⟨RX10, "bad", "(I)I"⟩
abbrev cX10_no : ByteArray := prog_12_method_5_code
def yX10_no : MethodName := ⟨RX10, "no", "()I"⟩
abbrev cX10_full : ByteArray := prog_12_method_6_code
def yX10_full : MethodName := ⟨RX10, "full", "()I"⟩
abbrev cX10_set : ByteArray := prog_12_method_7_code
def yX10_set : MethodName := ⟨RX10, "set", "(IJ)V"⟩
abbrev cX10_copy : ByteArray := prog_12_method_8_code
def yX10_copy : MethodName := ⟨RX10, "copy", "(II)V"⟩
abbrev cX10_trim : ByteArray := prog_12_method_9_code
def yX10_trim : MethodName := ⟨RX10, "trim", "(I)V"⟩
abbrev cX10_times : ByteArray := prog_12_method_10_code
def yX10_times : MethodName := ⟨RX10, "times", "(IJ)V"⟩
abbrev cX10_product : ByteArray := prog_12_method_11_code
def yX10_product : MethodName := ⟨RX10, "product", "(III)V"⟩
abbrev cX10_compare : ByteArray := prog_12_method_12_code
def yX10_compare : MethodName := ⟨RX10, "compare", "(II)I"⟩
abbrev cX10_add : ByteArray := prog_12_method_13_code
def yX10_add : MethodName := ⟨RX10, "add", "(II)V"⟩
abbrev cX10_take : ByteArray := prog_12_method_14_code
def yX10_take : MethodName := ⟨RX10, "take", "(II)V"⟩
abbrev cX10_halve : ByteArray := prog_12_method_15_code
def yX10_halve : MethodName := ⟨RX10, "halve", "(I)V"⟩
abbrev cX10_isEven : ByteArray := prog_12_method_16_code
def yX10_isEven : MethodName := ⟨RX10, "isEven", "(I)Z"⟩
abbrev cX10_findDivisor : ByteArray := prog_12_method_17_code
def yX10_findDivisor : MethodName := ⟨RX10, "findDivisor", "(II)V"⟩
abbrev cX10_divide : ByteArray := prog_12_method_18_code
def yX10_divide : MethodName := ⟨RX10, "divide", "(I)V"⟩
abbrev cX10_addOne : ByteArray := prog_12_method_19_code
def yX10_addOne : MethodName := ⟨RX10, "addOne", "()V"⟩
abbrev cX10_tell : ByteArray := prog_12_method_20_code
def yX10_tell : MethodName := ⟨RX10, "tell", "(IIZ)V"⟩
abbrev cX10_tells : ByteArray := prog_12_method_21_code
def yX10_tells : MethodName := ⟨RX10, "tells", "(JJ)I"⟩
abbrev cX10_places : ByteArray := prog_12_method_22_code
def yX10_places : MethodName := ⟨RX10, "places", "()I"⟩
abbrev cX10_lots : ByteArray := prog_12_method_23_code
def yX10_lots : MethodName := ⟨RX10, "lots", "()I"⟩
abbrev cX10_signs : ByteArray := prog_12_method_24_code
def yX10_signs : MethodName := ⟨RX10, "signs", "()I"⟩
abbrev cX10_tellers : ByteArray := prog_12_method_25_code
def yX10_tellers : MethodName := ⟨RX10, "tellers", "()I"⟩
abbrev cX10_isPlace : ByteArray := prog_12_method_26_code
def yX10_isPlace : MethodName := ⟨RX10, "isPlace", "(I)Z"⟩
abbrev cX10_isLot : ByteArray := prog_12_method_27_code
def yX10_isLot : MethodName := ⟨RX10, "isLot", "(I)Z"⟩
abbrev cX10_isFour : ByteArray := prog_12_method_28_code
def yX10_isFour : MethodName := ⟨RX10, "isFour", "(I)Z"⟩
abbrev cX10_isMonth : ByteArray := prog_12_method_29_code
def yX10_isMonth : MethodName := ⟨RX10, "isMonth", "(I)Z"⟩
abbrev cX10_place : ByteArray := prog_12_method_30_code
def yX10_place : MethodName := ⟨RX10, "place", "(I)I"⟩
abbrev cX10_rain : ByteArray := prog_12_method_31_code
def yX10_rain : MethodName := ⟨RX10, "rain", "(II)I"⟩
abbrev cX10_lot : ByteArray := prog_12_method_32_code
def yX10_lot : MethodName := ⟨RX10, "lot", "(I)I"⟩
abbrev cX10_put : ByteArray := prog_12_method_33_code
def yX10_put : MethodName := ⟨RX10, "put", "(II)I"⟩
abbrev cX10_kind : ByteArray := prog_12_method_34_code
def yX10_kind : MethodName := ⟨RX10, "kind", "(III)I"⟩
abbrev cX10_prior : ByteArray := prog_12_method_35_code
def yX10_prior : MethodName := ⟨RX10, "prior", "(II)I"⟩
abbrev cX10_textLong : ByteArray := prog_12_method_36_code
def yX10_textLong : MethodName := ⟨RX10, "textLong", "(I)I"⟩
abbrev cX10_byteAt : ByteArray := prog_12_method_37_code
def yX10_byteAt : MethodName := ⟨RX10, "byteAt", "(II)I"⟩
abbrev cX10_type : ByteArray := prog_12_method_38_code
def yX10_type : MethodName := ⟨RX10, "type", "(IJI)I"⟩
abbrev cX10_clear : ByteArray := prog_12_method_39_code
def yX10_clear : MethodName := ⟨RX10, "clear", "(I)I"⟩
abbrev cX10_isSmall : ByteArray := prog_12_method_40_code
def yX10_isSmall : MethodName := ⟨RX10, "isSmall", "(I)Z"⟩
abbrev cX10_isFigure : ByteArray := prog_12_method_41_code
def yX10_isFigure : MethodName := ⟨RX10, "isFigure", "(I)Z"⟩
abbrev cX10_look : ByteArray := prog_12_method_42_code
def yX10_look : MethodName := ⟨RX10, "look", "(I)V"⟩
abbrev cX10_goOn : ByteArray := prog_12_method_43_code
def yX10_goOn : MethodName := ⟨RX10, "goOn", "()V"⟩
abbrev cX10_isWord : ByteArray := prog_12_method_44_code
def yX10_isWord : MethodName := ⟨RX10, "isWord", "(IIIII)Z"⟩
abbrev cX10_layFrom : ByteArray := prog_12_method_45_code
def yX10_layFrom : MethodName := ⟨RX10, "layFrom", "(II)V"⟩
abbrev cX10_stops : ByteArray := prog_12_method_46_code
def yX10_stops : MethodName := ⟨RX10, "stops", "()Z"⟩
abbrev cX10_takesMonth : ByteArray := prog_12_method_47_code
def yX10_takesMonth : MethodName := ⟨RX10, "takesMonth", "()Z"⟩
abbrev cX10_readItem : ByteArray := prog_12_method_48_code
def yX10_readItem : MethodName := ⟨RX10, "readItem", "()Z"⟩
abbrev cX10_readsStory : ByteArray := prog_12_method_49_code
def yX10_readsStory : MethodName := ⟨RX10, "readsStory", "(I)Z"⟩
abbrev cX10_fault : ByteArray := prog_12_method_50_code
def yX10_fault : MethodName := ⟨RX10, "fault", "(I)I"⟩
abbrev cX10_readAll : ByteArray := prog_12_method_51_code
def yX10_readAll : MethodName := ⟨RX10, "readAll", "()V"⟩
abbrev cX10_sign : ByteArray := prog_12_method_52_code
def yX10_sign : MethodName := ⟨RX10, "sign", "(IIII)I"⟩
abbrev cX10_isSigned : ByteArray := prog_12_method_53_code
def yX10_isSigned : MethodName := ⟨RX10, "isSigned", "(II)Z"⟩
abbrev cX10_post : ByteArray := prog_12_method_54_code
def yX10_post : MethodName := ⟨RX10, "post", "(IZ)I"⟩
abbrev cX10_isWhere : ByteArray := prog_12_method_55_code
def yX10_isWhere : MethodName := ⟨RX10, "isWhere", "(I)Z"⟩
abbrev cX10_teller : ByteArray := prog_12_method_56_code
def yX10_teller : MethodName := ⟨RX10, "teller", "(IIIII)I"⟩
abbrev cX10_isHeard : ByteArray := prog_12_method_57_code
def yX10_isHeard : MethodName := ⟨RX10, "isHeard", "(I)Z"⟩
abbrev cX10_whereOf : ByteArray := prog_12_method_58_code
def yX10_whereOf : MethodName := ⟨RX10, "whereOf", "(II)I"⟩
abbrev cX10_leftOf : ByteArray := prog_12_method_59_code
def yX10_leftOf : MethodName := ⟨RX10, "leftOf", "(II)I"⟩
abbrev cX10_fedOf : ByteArray := prog_12_method_60_code
def yX10_fedOf : MethodName := ⟨RX10, "fedOf", "(II)I"⟩
abbrev cX10_isHungry : ByteArray := prog_12_method_61_code
def yX10_isHungry : MethodName := ⟨RX10, "isHungry", "(II)Z"⟩
abbrev cX10_hungerOf : ByteArray := prog_12_method_62_code
def yX10_hungerOf : MethodName := ⟨RX10, "hungerOf", "()I"⟩
abbrev cX10_timesAll : ByteArray := prog_12_method_63_code
def yX10_timesAll : MethodName := ⟨RX10, "timesAll", "(IJI)V"⟩
abbrev cX10_findSign : ByteArray := prog_12_method_64_code
def yX10_findSign : MethodName := ⟨RX10, "findSign", "(I)V"⟩
abbrev cX10_isSaidSo : ByteArray := prog_12_method_65_code
def yX10_isSaidSo : MethodName := ⟨RX10, "isSaidSo", "(I)Z"⟩
abbrev cX10_weigh : ByteArray := prog_12_method_66_code
def yX10_weigh : MethodName := ⟨RX10, "weigh", "()V"⟩
abbrev cX10_worlds : ByteArray := prog_12_method_67_code
def yX10_worlds : MethodName := ⟨RX10, "worlds", "()I"⟩
abbrev cX10_laysWorld : ByteArray := prog_12_method_68_code
def yX10_laysWorld : MethodName := ⟨RX10, "laysWorld", "(I)Z"⟩
abbrev cX10_holds : ByteArray := prog_12_method_69_code
def yX10_holds : MethodName := ⟨RX10, "holds", "(IIII)Z"⟩
abbrev cX10_sumsUp : ByteArray := prog_12_method_70_code
def yX10_sumsUp : MethodName := ⟨RX10, "sumsUp", "(IIII)Z"⟩
abbrev cX10_tellsShare : ByteArray := prog_12_method_71_code
def yX10_tellsShare : MethodName := ⟨RX10, "tellsShare", "(IIII)I"⟩
abbrev cX10_laysOne : ByteArray := prog_12_method_72_code
def yX10_laysOne : MethodName := ⟨RX10, "laysOne", "(I)Z"⟩
abbrev cX10_at : ByteArray := prog_12_method_73_code
def yX10_at : MethodName := ⟨RX10, "at", "(II)I"⟩
abbrev cX10_must : ByteArray := prog_12_method_74_code
def yX10_must : MethodName := ⟨RX10, "must", "(III)I"⟩
abbrev cX10_hunger : ByteArray := prog_12_method_75_code
def yX10_hunger : MethodName := ⟨RX10, "hunger", "(I)I"⟩
abbrev cX10_odds : ByteArray := prog_12_method_76_code
def yX10_odds : MethodName := ⟨RX10, "odds", "(II)I"⟩
abbrev cX10_all : ByteArray := prog_12_method_77_code
def yX10_all : MethodName := ⟨RX10, "all", "(I)I"⟩
abbrev cX10_where : ByteArray := prog_12_method_78_code
def yX10_where : MethodName := ⟨RX10, "where", "(III)I"⟩
abbrev cX10_so : ByteArray := prog_12_method_79_code
def yX10_so : MethodName := ⟨RX10, "so", "(I)I"⟩
abbrev cX10_lost : ByteArray := prog_12_method_80_code
def yX10_lost : MethodName := ⟨RX10, "lost", "(I)I"⟩
abbrev cX10_next : ByteArray := prog_12_method_81_code
def yX10_next : MethodName := ⟨RX10, "next", "()I"⟩
abbrev cX10_differs : ByteArray := prog_12_method_82_code
def yX10_differs : MethodName := ⟨RX10, "differs", "(II)I"⟩
abbrev cX10_isYear : ByteArray := prog_12_method_83_code
def yX10_isYear : MethodName := ⟨RX10, "isYear", "(I)Z"⟩
abbrev cX10_fed : ByteArray := prog_12_method_84_code
def yX10_fed : MethodName := ⟨RX10, "fed", "(II)I"⟩
abbrev cX10_dry : ByteArray := prog_12_method_85_code
def yX10_dry : MethodName := ⟨RX10, "dry", "(III)I"⟩
abbrev cX10_many : ByteArray := prog_12_method_86_code
def yX10_many : MethodName := ⟨RX10, "many", "(IIII)I"⟩
abbrev cX10_power : ByteArray := prog_12_method_87_code
def yX10_power : MethodName := ⟨RX10, "power", "(JI)J"⟩
abbrev cX10_stone : ByteArray := prog_12_method_88_code
def yX10_stone : MethodName := ⟨RX10, "stone", "(IIIII)I"⟩
abbrev cX10_days : ByteArray := prog_12_method_89_code
def yX10_days : MethodName := ⟨RX10, "days", "(III)I"⟩
abbrev cX10_isDay : ByteArray := prog_12_method_90_code
def yX10_isDay : MethodName := ⟨RX10, "isDay", "(I)Z"⟩
abbrev cX10_storm : ByteArray := prog_12_method_91_code
def yX10_storm : MethodName := ⟨RX10, "storm", "(IZ)I"⟩
abbrev cX10_dayBehind : ByteArray := prog_12_method_92_code
def yX10_dayBehind : MethodName := ⟨RX10, "dayBehind", "(II)I"⟩
abbrev cX10_sailsTo : ByteArray := prog_12_method_93_code
def yX10_sailsTo : MethodName := ⟨RX10, "sailsTo", "(III)I"⟩
abbrev cX10_sails : ByteArray := prog_12_method_94_code
def yX10_sails : MethodName := ⟨RX10, "sails", "(III)I"⟩
abbrev cX10_back : ByteArray := prog_12_method_95_code
def yX10_back : MethodName := ⟨RX10, "back", "(IIIII)I"⟩
abbrev cX10_part : ByteArray := prog_12_method_96_code
def yX10_part : MethodName := ⟨RX10, "part", "(I)I"⟩
abbrev cX10_limb : ByteArray := prog_12_method_97_code
def yX10_limb : MethodName := ⟨RX10, "limb", "(II)I"⟩
abbrev cX10_image : ByteArray := prog_12_method_98_code
def yX10_image : MethodName := ⟨RX10, "image", "(I)I"⟩
abbrev cX10_from : ByteArray := prog_12_method_99_code
def yX10_from : MethodName := ⟨RX10, "from", "(I)I"⟩
abbrev cX10_status : ByteArray := prog_12_method_100_code
def yX10_status : MethodName := ⟨RX10, "status", "(I)I"⟩
abbrev cX10_counted : ByteArray := prog_12_method_101_code
def yX10_counted : MethodName := ⟨RX10, "counted", "(I)I"⟩
abbrev cX10_count : ByteArray := prog_12_method_102_code
def yX10_count : MethodName := ⟨RX10, "count", "(I)I"⟩
abbrev cX10_sums : ByteArray := prog_12_method_103_code
def yX10_sums : MethodName := ⟨RX10, "sums", "(JII)J"⟩
abbrev cX10_digest : ByteArray := prog_12_method_104_code
def yX10_digest : MethodName := ⟨RX10, "digest", "()J"⟩
abbrev cJ9_max_7cf53 : ByteArray := prog_13_method_65_code
def yJ9_max_7cf53 : MethodName := ⟨RJ9, "max", "(II)I"⟩
abbrev cJ9_max_f86c9 : ByteArray := prog_13_method_66_code
def yJ9_max_f86c9 : MethodName := ⟨RJ9, "max", "(JJ)J"⟩
abbrev cJ9_min_7cf53 : ByteArray := prog_13_method_69_code
def yJ9_min_7cf53 : MethodName := ⟨RJ9, "min", "(II)I"⟩
abbrev cJ7_fill_53178 : ByteArray := prog_15_method_103_code
def yJ7_fill_53178 : MethodName := ⟨RJ7, "fill", "([II)V"⟩
abbrev cL_law : ByteArray := code
def yL_law : MethodName := ⟨RL, "law", "([I)Z"⟩
theorem kf_X5_59 : Cond.fieldLink RX5 59 "WordOnPost$State" "places" "I" ∈ gW := gW_of 144 (by decide +kernel) (by decide +kernel)
theorem kf_X9_73 : Cond.fieldLink RX9 73 "WordOnPost$State" "places" "I" ∈ gW := gW_of 145 (by decide +kernel) (by decide +kernel)
theorem kf_X4_24 : Cond.fieldLink RX4 24 "WordOnPost$State" "places" "I" ∈ gW := gW_of 146 (by decide +kernel) (by decide +kernel)
theorem kf_X3_64 : Cond.fieldLink RX3 64 "WordOnPost$State" "places" "I" ∈ gW := gW_of 147 (by decide +kernel) (by decide +kernel)
theorem kf_X8_191 : Cond.fieldLink RX8 191 "WordOnPost$State" "places" "I" ∈ gW := gW_of 148 (by decide +kernel) (by decide +kernel)
theorem kf_X5_63 : Cond.fieldLink RX5 63 "WordOnPost$State" "lots" "I" ∈ gW := gW_of 149 (by decide +kernel) (by decide +kernel)
theorem kf_X8_87 : Cond.fieldLink RX8 87 "WordOnPost$State" "lots" "I" ∈ gW := gW_of 150 (by decide +kernel) (by decide +kernel)
theorem kf_X9_94 : Cond.fieldLink RX9 94 "WordOnPost$State" "lots" "I" ∈ gW := gW_of 151 (by decide +kernel) (by decide +kernel)
theorem kf_X3_93 : Cond.fieldLink RX3 93 "WordOnPost$State" "lots" "I" ∈ gW := gW_of 152 (by decide +kernel) (by decide +kernel)
theorem kf_X5_66 : Cond.fieldLink RX5 66 "WordOnPost$State" "signs" "I" ∈ gW := gW_of 153 (by decide +kernel) (by decide +kernel)
theorem kf_X1_31 : Cond.fieldLink RX1 31 "WordOnPost$State" "signs" "I" ∈ gW := gW_of 154 (by decide +kernel) (by decide +kernel)
theorem kf_X8_152 : Cond.fieldLink RX8 152 "WordOnPost$State" "signs" "I" ∈ gW := gW_of 155 (by decide +kernel) (by decide +kernel)
theorem kf_X9_142 : Cond.fieldLink RX9 142 "WordOnPost$State" "signs" "I" ∈ gW := gW_of 156 (by decide +kernel) (by decide +kernel)
theorem kf_X5_69 : Cond.fieldLink RX5 69 "WordOnPost$State" "tellers" "I" ∈ gW := gW_of 157 (by decide +kernel) (by decide +kernel)
theorem kf_X8_119 : Cond.fieldLink RX8 119 "WordOnPost$State" "tellers" "I" ∈ gW := gW_of 158 (by decide +kernel) (by decide +kernel)
theorem kf_X9_160 : Cond.fieldLink RX9 160 "WordOnPost$State" "tellers" "I" ∈ gW := gW_of 159 (by decide +kernel) (by decide +kernel)
theorem kf_X5_9 : Cond.fieldLink RX5 9 "WordOnPost$State" "feeds" "[I" ∈ gW := gW_of 160 (by decide +kernel) (by decide +kernel)
theorem kf_X9_80 : Cond.fieldLink RX9 80 "WordOnPost$State" "feeds" "[I" ∈ gW := gW_of 161 (by decide +kernel) (by decide +kernel)
theorem kf_X5_15 : Cond.fieldLink RX5 15 "WordOnPost$State" "rains" "[I" ∈ gW := gW_of 162 (by decide +kernel) (by decide +kernel)
theorem kf_X9_87 : Cond.fieldLink RX9 87 "WordOnPost$State" "rains" "[I" ∈ gW := gW_of 163 (by decide +kernel) (by decide +kernel)
theorem kf_X5_18 : Cond.fieldLink RX5 18 "WordOnPost$State" "people" "[I" ∈ gW := gW_of 164 (by decide +kernel) (by decide +kernel)
theorem kf_X9_97 : Cond.fieldLink RX9 97 "WordOnPost$State" "people" "[I" ∈ gW := gW_of 165 (by decide +kernel) (by decide +kernel)
theorem kf_X3_102 : Cond.fieldLink RX3 102 "WordOnPost$State" "people" "[I" ∈ gW := gW_of 166 (by decide +kernel) (by decide +kernel)
theorem kf_X5_21 : Cond.fieldLink RX5 21 "WordOnPost$State" "puts" "[I" ∈ gW := gW_of 167 (by decide +kernel) (by decide +kernel)
theorem kf_X8_74 : Cond.fieldLink RX8 74 "WordOnPost$State" "puts" "[I" ∈ gW := gW_of 168 (by decide +kernel) (by decide +kernel)
theorem kf_X9_100 : Cond.fieldLink RX9 100 "WordOnPost$State" "puts" "[I" ∈ gW := gW_of 169 (by decide +kernel) (by decide +kernel)
theorem kf_X5_26 : Cond.fieldLink RX5 26 "WordOnPost$State" "kinds" "[[I" ∈ gW := gW_of 170 (by decide +kernel) (by decide +kernel)
theorem kf_X1_41 : Cond.fieldLink RX1 41 "WordOnPost$State" "kinds" "[[I" ∈ gW := gW_of 171 (by decide +kernel) (by decide +kernel)
theorem kf_X9_107 : Cond.fieldLink RX9 107 "WordOnPost$State" "kinds" "[[I" ∈ gW := gW_of 172 (by decide +kernel) (by decide +kernel)
theorem kf_X3_99 : Cond.fieldLink RX3 99 "WordOnPost$State" "kinds" "[[I" ∈ gW := gW_of 173 (by decide +kernel) (by decide +kernel)
theorem kf_X5_29 : Cond.fieldLink RX5 29 "WordOnPost$State" "priors" "[I" ∈ gW := gW_of 174 (by decide +kernel) (by decide +kernel)
theorem kf_X8_104 : Cond.fieldLink RX8 104 "WordOnPost$State" "priors" "[I" ∈ gW := gW_of 175 (by decide +kernel) (by decide +kernel)
theorem kf_X9_114 : Cond.fieldLink RX9 114 "WordOnPost$State" "priors" "[I" ∈ gW := gW_of 176 (by decide +kernel) (by decide +kernel)
theorem kf_X5_32 : Cond.fieldLink RX5 32 "WordOnPost$State" "lengths" "[I" ∈ gW := gW_of 177 (by decide +kernel) (by decide +kernel)
theorem kf_X3_57 : Cond.fieldLink RX3 57 "WordOnPost$State" "lengths" "[I" ∈ gW := gW_of 178 (by decide +kernel) (by decide +kernel)
theorem kf_X9_117 : Cond.fieldLink RX9 117 "WordOnPost$State" "lengths" "[I" ∈ gW := gW_of 179 (by decide +kernel) (by decide +kernel)
theorem kf_X5_35 : Cond.fieldLink RX5 35 "WordOnPost$State" "texts" "[[I" ∈ gW := gW_of 180 (by decide +kernel) (by decide +kernel)
theorem kf_X3_54 : Cond.fieldLink RX3 54 "WordOnPost$State" "texts" "[[I" ∈ gW := gW_of 181 (by decide +kernel) (by decide +kernel)
theorem kf_X9_120 : Cond.fieldLink RX9 120 "WordOnPost$State" "texts" "[[I" ∈ gW := gW_of 182 (by decide +kernel) (by decide +kernel)
theorem kf_X5_38 : Cond.fieldLink RX5 38 "WordOnPost$State" "signRows" "[[I" ∈ gW := gW_of 183 (by decide +kernel) (by decide +kernel)
theorem kf_X1_37 : Cond.fieldLink RX1 37 "WordOnPost$State" "signRows" "[[I" ∈ gW := gW_of 184 (by decide +kernel) (by decide +kernel)
theorem kf_X8_159 : Cond.fieldLink RX8 159 "WordOnPost$State" "signRows" "[[I" ∈ gW := gW_of 185 (by decide +kernel) (by decide +kernel)
theorem kf_X9_145 : Cond.fieldLink RX9 145 "WordOnPost$State" "signRows" "[[I" ∈ gW := gW_of 186 (by decide +kernel) (by decide +kernel)
theorem kf_X5_41 : Cond.fieldLink RX5 41 "WordOnPost$State" "post" "[I" ∈ gW := gW_of 187 (by decide +kernel) (by decide +kernel)
theorem kf_X8_137 : Cond.fieldLink RX8 137 "WordOnPost$State" "post" "[I" ∈ gW := gW_of 188 (by decide +kernel) (by decide +kernel)
theorem kf_X9_148 : Cond.fieldLink RX9 148 "WordOnPost$State" "post" "[I" ∈ gW := gW_of 189 (by decide +kernel) (by decide +kernel)
theorem kf_X5_44 : Cond.fieldLink RX5 44 "WordOnPost$State" "tellerRows" "[[I" ∈ gW := gW_of 190 (by decide +kernel) (by decide +kernel)
theorem kf_X8_122 : Cond.fieldLink RX8 122 "WordOnPost$State" "tellerRows" "[[I" ∈ gW := gW_of 191 (by decide +kernel) (by decide +kernel)
theorem kf_X9_163 : Cond.fieldLink RX9 163 "WordOnPost$State" "tellerRows" "[[I" ∈ gW := gW_of 192 (by decide +kernel) (by decide +kernel)
theorem kf_X5_47 : Cond.fieldLink RX5 47 "WordOnPost$State" "ways" "[[I" ∈ gW := gW_of 193 (by decide +kernel) (by decide +kernel)
theorem kf_X4_38 : Cond.fieldLink RX4 38 "WordOnPost$State" "ways" "[[I" ∈ gW := gW_of 194 (by decide +kernel) (by decide +kernel)
theorem kf_X9_234 : Cond.fieldLink RX9 234 "WordOnPost$State" "ways" "[[I" ∈ gW := gW_of 195 (by decide +kernel) (by decide +kernel)
theorem kf_X5_50 : Cond.fieldLink RX5 50 "WordOnPost$State" "storms" "[I" ∈ gW := gW_of 196 (by decide +kernel) (by decide +kernel)
theorem kf_X4_42 : Cond.fieldLink RX4 42 "WordOnPost$State" "storms" "[I" ∈ gW := gW_of 197 (by decide +kernel) (by decide +kernel)
theorem kf_X9_237 : Cond.fieldLink RX9 237 "WordOnPost$State" "storms" "[I" ∈ gW := gW_of 198 (by decide +kernel) (by decide +kernel)
theorem kf_X7_9 : Cond.fieldLink RX7 9 "WordOnPost$Tokens" "starts" "[I" ∈ gW := gW_of 241 (by decide +kernel) (by decide +kernel)
theorem kf_X7_15 : Cond.fieldLink RX7 15 "WordOnPost$Tokens" "tokens" "[I" ∈ gW := gW_of 242 (by decide +kernel) (by decide +kernel)
theorem kf_X7_18 : Cond.fieldLink RX7 18 "WordOnPost$Tokens" "values" "[I" ∈ gW := gW_of 243 (by decide +kernel) (by decide +kernel)
theorem kf_X7_21 : Cond.fieldLink RX7 21 "WordOnPost$Tokens" "count" "I" ∈ gW := gW_of 244 (by decide +kernel) (by decide +kernel)
theorem kf_X7_25 : Cond.fieldLink RX7 25 "WordOnPost$Tokens" "ahead" "I" ∈ gW := gW_of 245 (by decide +kernel) (by decide +kernel)
theorem kf_X6_9 : Cond.fieldLink RX6 9 "WordOnPost$Tale" "whereabouts" "[I" ∈ gW := gW_of 265 (by decide +kernel) (by decide +kernel)
theorem kf_X3_85 : Cond.fieldLink RX3 85 "WordOnPost$Tale" "whereabouts" "[I" ∈ gW := gW_of 266 (by decide +kernel) (by decide +kernel)
theorem kf_X8_128 : Cond.fieldLink RX8 128 "WordOnPost$Tale" "whereabouts" "[I" ∈ gW := gW_of 267 (by decide +kernel) (by decide +kernel)
theorem kf_X9_172 : Cond.fieldLink RX9 172 "WordOnPost$Tale" "whereabouts" "[I" ∈ gW := gW_of 268 (by decide +kernel) (by decide +kernel)
theorem kf_X6_15 : Cond.fieldLink RX6 15 "WordOnPost$Tale" "stays" "[I" ∈ gW := gW_of 269 (by decide +kernel) (by decide +kernel)
theorem kf_X3_105 : Cond.fieldLink RX3 105 "WordOnPost$Tale" "stays" "[I" ∈ gW := gW_of 270 (by decide +kernel) (by decide +kernel)
theorem kf_X6_18 : Cond.fieldLink RX6 18 "WordOnPost$Tale" "fault" "I" ∈ gW := gW_of 271 (by decide +kernel) (by decide +kernel)
theorem kf_X3_96 : Cond.fieldLink RX3 96 "WordOnPost$Tale" "fault" "I" ∈ gW := gW_of 272 (by decide +kernel) (by decide +kernel)
theorem kf_X9_130 : Cond.fieldLink RX9 130 "WordOnPost$Tale" "fault" "I" ∈ gW := gW_of 273 (by decide +kernel) (by decide +kernel)
theorem kf_X6_22 : Cond.fieldLink RX6 22 "WordOnPost$Tale" "word" "I" ∈ gW := gW_of 274 (by decide +kernel) (by decide +kernel)
theorem kf_X8_140 : Cond.fieldLink RX8 140 "WordOnPost$Tale" "word" "I" ∈ gW := gW_of 275 (by decide +kernel) (by decide +kernel)
theorem kf_X6_25 : Cond.fieldLink RX6 25 "WordOnPost$Tale" "cross" "Z" ∈ gW := gW_of 276 (by decide +kernel) (by decide +kernel)
theorem kf_X8_143 : Cond.fieldLink RX8 143 "WordOnPost$Tale" "cross" "Z" ∈ gW := gW_of 277 (by decide +kernel) (by decide +kernel)
theorem kf_X6_29 : Cond.fieldLink RX6 29 "WordOnPost$Tale" "here" "I" ∈ gW := gW_of 278 (by decide +kernel) (by decide +kernel)
theorem kf_X6_32 : Cond.fieldLink RX6 32 "WordOnPost$Tale" "since" "I" ∈ gW := gW_of 279 (by decide +kernel) (by decide +kernel)
theorem kf_X6_35 : Cond.fieldLink RX6 35 "WordOnPost$Tale" "token" "I" ∈ gW := gW_of 280 (by decide +kernel) (by decide +kernel)
theorem kf_X3_12 : Cond.fieldLink RX3 12 "WordOnPost$Lives" "now" "LWordOnPost$State;" ∈ gW := gW_of 298 (by decide +kernel) (by decide +kernel)
theorem kf_X8_18 : Cond.fieldLink RX8 18 "WordOnPost$Lives" "now" "LWordOnPost$State;" ∈ gW := gW_of 299 (by decide +kernel) (by decide +kernel)
theorem kf_X9_21 : Cond.fieldLink RX9 21 "WordOnPost$Lives" "now" "LWordOnPost$State;" ∈ gW := gW_of 300 (by decide +kernel) (by decide +kernel)
theorem kf_X3_21 : Cond.fieldLink RX3 21 "WordOnPost$Lives" "tokens" "LWordOnPost$Tokens;" ∈ gW := gW_of 301 (by decide +kernel) (by decide +kernel)
theorem kf_X3_27 : Cond.fieldLink RX3 27 "WordOnPost$Lives" "tales" "[LWordOnPost$Tale;" ∈ gW := gW_of 302 (by decide +kernel) (by decide +kernel)
theorem kf_X8_107 : Cond.fieldLink RX8 107 "WordOnPost$Lives" "tales" "[LWordOnPost$Tale;" ∈ gW := gW_of 303 (by decide +kernel) (by decide +kernel)
theorem kf_X9_126 : Cond.fieldLink RX9 126 "WordOnPost$Lives" "tales" "[LWordOnPost$Tale;" ∈ gW := gW_of 304 (by decide +kernel) (by decide +kernel)
theorem kf_X3_31 : Cond.fieldLink RX3 31 "WordOnPost$Lives" "choice" "[I" ∈ gW := gW_of 305 (by decide +kernel) (by decide +kernel)
theorem kf_X8_146 : Cond.fieldLink RX8 146 "WordOnPost$Lives" "choice" "[I" ∈ gW := gW_of 306 (by decide +kernel) (by decide +kernel)
theorem kf_X3_35 : Cond.fieldLink RX3 35 "WordOnPost$Lives" "turns" "[I" ∈ gW := gW_of 307 (by decide +kernel) (by decide +kernel)
theorem kf_X3_78 : Cond.fieldLink RX3 78 "WordOnPost$Lives" "turnCount" "I" ∈ gW := gW_of 308 (by decide +kernel) (by decide +kernel)
theorem kf_X3_38 : Cond.fieldLink RX3 38 "WordOnPost$Lives" "heads" "[I" ∈ gW := gW_of 309 (by decide +kernel) (by decide +kernel)
theorem kf_X3_41 : Cond.fieldLink RX3 41 "WordOnPost$Lives" "hungry" "[I" ∈ gW := gW_of 310 (by decide +kernel) (by decide +kernel)
theorem kf_X3_46 : Cond.fieldLink RX3 46 "WordOnPost$Lives" "feeds" "[[I" ∈ gW := gW_of 311 (by decide +kernel) (by decide +kernel)
theorem kf_X3_50 : Cond.fieldLink RX3 50 "WordOnPost$Lives" "fresh" "Z" ∈ gW := gW_of 312 (by decide +kernel) (by decide +kernel)
theorem kf_X9_290 : Cond.fieldLink RX9 290 "WordOnPost$Lives" "fresh" "Z" ∈ gW := gW_of 313 (by decide +kernel) (by decide +kernel)
theorem kf_X0_13 : Cond.fieldLink RX0 13 "WordOnPost$Big" "digits" "[I" ∈ gW := gW_of 351 (by decide +kernel) (by decide +kernel)
theorem kf_X9_283 : Cond.fieldLink RX9 283 "WordOnPost$Big" "digits" "[I" ∈ gW := gW_of 352 (by decide +kernel) (by decide +kernel)
theorem kf_X0_19 : Cond.fieldLink RX0 19 "WordOnPost$Big" "size" "I" ∈ gW := gW_of 353 (by decide +kernel) (by decide +kernel)
theorem kf_X9_253 : Cond.fieldLink RX9 253 "WordOnPost$Big" "size" "I" ∈ gW := gW_of 354 (by decide +kernel) (by decide +kernel)
theorem kf_X1_11 : Cond.fieldLink RX1 11 "WordOnPost$Chances" "table" "[LWordOnPost$Big;" ∈ gW := gW_of 360 (by decide +kernel) (by decide +kernel)
theorem kf_X1_17 : Cond.fieldLink RX1 17 "WordOnPost$Chances" "byFound" "[LWordOnPost$Big;" ∈ gW := gW_of 361 (by decide +kernel) (by decide +kernel)
theorem kf_X1_23 : Cond.fieldLink RX1 23 "WordOnPost$Chances" "dugUp" "LWordOnPost$Big;" ∈ gW := gW_of 362 (by decide +kernel) (by decide +kernel)
theorem kf_X1_27 : Cond.fieldLink RX1 27 "WordOnPost$Chances" "keys" "[I" ∈ gW := gW_of 363 (by decide +kernel) (by decide +kernel)
theorem kf_X8_12 : Cond.fieldLink RX8 12 "WordOnPost$Worlds" "lives" "LWordOnPost$Lives;" ∈ gW := gW_of 376 (by decide +kernel) (by decide +kernel)
theorem kf_X9_16 : Cond.fieldLink RX9 16 "WordOnPost$Worlds" "lives" "LWordOnPost$Lives;" ∈ gW := gW_of 377 (by decide +kernel) (by decide +kernel)
theorem kf_X8_22 : Cond.fieldLink RX8 22 "WordOnPost$Worlds" "now" "LWordOnPost$State;" ∈ gW := gW_of 378 (by decide +kernel) (by decide +kernel)
theorem kf_X8_26 : Cond.fieldLink RX8 26 "WordOnPost$Worlds" "chances" "LWordOnPost$Chances;" ∈ gW := gW_of 379 (by decide +kernel) (by decide +kernel)
theorem kf_X8_32 : Cond.fieldLink RX8 32 "WordOnPost$Worlds" "shares" "[[I" ∈ gW := gW_of 380 (by decide +kernel) (by decide +kernel)
theorem kf_X8_37 : Cond.fieldLink RX8 37 "WordOnPost$Worlds" "lived" "[LWordOnPost$Big;" ∈ gW := gW_of 381 (by decide +kernel) (by decide +kernel)
theorem kf_X8_44 : Cond.fieldLink RX8 44 "WordOnPost$Worlds" "gathered" "LWordOnPost$Big;" ∈ gW := gW_of 382 (by decide +kernel) (by decide +kernel)
theorem kf_X8_48 : Cond.fieldLink RX8 48 "WordOnPost$Worlds" "weight" "LWordOnPost$Big;" ∈ gW := gW_of 383 (by decide +kernel) (by decide +kernel)
theorem kf_X8_51 : Cond.fieldLink RX8 51 "WordOnPost$Worlds" "spare" "LWordOnPost$Big;" ∈ gW := gW_of 384 (by decide +kernel) (by decide +kernel)
theorem kf_X8_84 : Cond.fieldLink RX8 84 "WordOnPost$Worlds" "mostHunger" "I" ∈ gW := gW_of 385 (by decide +kernel) (by decide +kernel)
theorem kf_X8_54 : Cond.fieldLink RX8 54 "WordOnPost$Worlds" "alls" "[LWordOnPost$Big;" ∈ gW := gW_of 386 (by decide +kernel) (by decide +kernel)
theorem kf_X9_197 : Cond.fieldLink RX9 197 "WordOnPost$Worlds" "alls" "[LWordOnPost$Big;" ∈ gW := gW_of 387 (by decide +kernel) (by decide +kernel)
theorem kf_X8_57 : Cond.fieldLink RX8 57 "WordOnPost$Worlds" "total" "LWordOnPost$Big;" ∈ gW := gW_of 388 (by decide +kernel) (by decide +kernel)
theorem kf_X9_296 : Cond.fieldLink RX9 296 "WordOnPost$Worlds" "total" "LWordOnPost$Big;" ∈ gW := gW_of 389 (by decide +kernel) (by decide +kernel)
theorem kf_X8_60 : Cond.fieldLink RX8 60 "WordOnPost$Worlds" "fresh" "Z" ∈ gW := gW_of 390 (by decide +kernel) (by decide +kernel)
theorem kf_X9_294 : Cond.fieldLink RX9 294 "WordOnPost$Worlds" "fresh" "Z" ∈ gW := gW_of 391 (by decide +kernel) (by decide +kernel)
theorem kf_X2_14 : Cond.fieldLink RX2 14 "WordOnPost$Fraction" "above" "LWordOnPost$Big;" ∈ gW := gW_of 432 (by decide +kernel) (by decide +kernel)
theorem kf_X9_247 : Cond.fieldLink RX9 247 "WordOnPost$Fraction" "above" "LWordOnPost$Big;" ∈ gW := gW_of 433 (by decide +kernel) (by decide +kernel)
theorem kf_X2_20 : Cond.fieldLink RX2 20 "WordOnPost$Fraction" "below" "LWordOnPost$Big;" ∈ gW := gW_of 434 (by decide +kernel) (by decide +kernel)
theorem kf_X9_250 : Cond.fieldLink RX9 250 "WordOnPost$Fraction" "below" "LWordOnPost$Big;" ∈ gW := gW_of 435 (by decide +kernel) (by decide +kernel)
theorem kf_X2_23 : Cond.fieldLink RX2 23 "WordOnPost$Fraction" "quotient" "LWordOnPost$Big;" ∈ gW := gW_of 436 (by decide +kernel) (by decide +kernel)
theorem kf_X2_26 : Cond.fieldLink RX2 26 "WordOnPost$Fraction" "greater" "LWordOnPost$Big;" ∈ gW := gW_of 437 (by decide +kernel) (by decide +kernel)
theorem kf_X2_29 : Cond.fieldLink RX2 29 "WordOnPost$Fraction" "lesser" "LWordOnPost$Big;" ∈ gW := gW_of 438 (by decide +kernel) (by decide +kernel)
theorem kf_X4_9 : Cond.fieldLink RX4 9 "WordOnPost$Ship" "firstDay" "[I" ∈ gW := gW_of 457 (by decide +kernel) (by decide +kernel)
theorem kf_X4_15 : Cond.fieldLink RX4 15 "WordOnPost$Ship" "settled" "[I" ∈ gW := gW_of 458 (by decide +kernel) (by decide +kernel)
theorem kf_X9_10 : Cond.fieldLink RX9 10 "WordOnPost" "worlds" "LWordOnPost$Worlds;" ∈ gW := gW_of 467 (by decide +kernel) (by decide +kernel)
theorem kf_X9_20 : Cond.fieldLink RX9 20 "WordOnPost" "lives" "LWordOnPost$Lives;" ∈ gW := gW_of 468 (by decide +kernel) (by decide +kernel)
theorem kf_X9_27 : Cond.fieldLink RX9 27 "WordOnPost" "now" "LWordOnPost$State;" ∈ gW := gW_of 469 (by decide +kernel) (by decide +kernel)
theorem kf_X9_30 : Cond.fieldLink RX9 30 "WordOnPost" "images" "[LWordOnPost$State;" ∈ gW := gW_of 470 (by decide +kernel) (by decide +kernel)
theorem kf_X9_34 : Cond.fieldLink RX9 34 "WordOnPost" "kept" "[Z" ∈ gW := gW_of 471 (by decide +kernel) (by decide +kernel)
theorem kf_X9_41 : Cond.fieldLink RX9 41 "WordOnPost" "fraction" "LWordOnPost$Fraction;" ∈ gW := gW_of 472 (by decide +kernel) (by decide +kernel)
theorem kf_X9_48 : Cond.fieldLink RX9 48 "WordOnPost" "ship" "LWordOnPost$Ship;" ∈ gW := gW_of 473 (by decide +kernel) (by decide +kernel)
theorem kf_X9_57 : Cond.fieldLink RX9 57 "WordOnPost" "stoneForged" "LWordOnPost$Big;" ∈ gW := gW_of 474 (by decide +kernel) (by decide +kernel)
theorem kf_X9_61 : Cond.fieldLink RX9 61 "WordOnPost" "stoneAny" "LWordOnPost$Big;" ∈ gW := gW_of 475 (by decide +kernel) (by decide +kernel)
theorem kf_X9_263 : Cond.fieldLink RX9 263 "WordOnPost" "refusedBad" "I" ∈ gW := gW_of 476 (by decide +kernel) (by decide +kernel)
theorem kf_X9_266 : Cond.fieldLink RX9 266 "WordOnPost" "refusedNo" "I" ∈ gW := gW_of 477 (by decide +kernel) (by decide +kernel)
theorem kf_X9_269 : Cond.fieldLink RX9 269 "WordOnPost" "refusedFull" "I" ∈ gW := gW_of 478 (by decide +kernel) (by decide +kernel)
theorem kf_X10_7 : Cond.fieldLink RX10 7 "WordOnPostModel" "now" "[I" ∈ gW := gW_of 1059 (by decide +kernel) (by decide +kernel)
theorem kf_X10_13 : Cond.fieldLink RX10 13 "WordOnPostModel" "kept" "[I" ∈ gW := gW_of 1060 (by decide +kernel) (by decide +kernel)
theorem kf_X10_16 : Cond.fieldLink RX10 16 "WordOnPostModel" "isKept" "[Z" ∈ gW := gW_of 1061 (by decide +kernel) (by decide +kernel)
theorem kf_X10_20 : Cond.fieldLink RX10 20 "WordOnPostModel" "refused" "[I" ∈ gW := gW_of 1062 (by decide +kernel) (by decide +kernel)
theorem kf_X10_23 : Cond.fieldLink RX10 23 "WordOnPostModel" "limbs" "[J" ∈ gW := gW_of 1063 (by decide +kernel) (by decide +kernel)
theorem kf_X10_27 : Cond.fieldLink RX10 27 "WordOnPostModel" "sizes" "[I" ∈ gW := gW_of 1064 (by decide +kernel) (by decide +kernel)
theorem kf_X10_87 : Cond.fieldLink RX10 87 "WordOnPostModel" "sign" "I" ∈ gW := gW_of 1065 (by decide +kernel) (by decide +kernel)
theorem kf_X10_152 : Cond.fieldLink RX10 152 "WordOnPostModel" "story" "I" ∈ gW := gW_of 1066 (by decide +kernel) (by decide +kernel)
theorem kf_X10_149 : Cond.fieldLink RX10 149 "WordOnPostModel" "tokenAt" "I" ∈ gW := gW_of 1067 (by decide +kernel) (by decide +kernel)
theorem kf_X10_158 : Cond.fieldLink RX10 158 "WordOnPostModel" "tokenLong" "I" ∈ gW := gW_of 1068 (by decide +kernel) (by decide +kernel)
theorem kf_X10_161 : Cond.fieldLink RX10 161 "WordOnPostModel" "token" "I" ∈ gW := gW_of 1069 (by decide +kernel) (by decide +kernel)
theorem kf_X10_164 : Cond.fieldLink RX10 164 "WordOnPostModel" "number" "I" ∈ gW := gW_of 1070 (by decide +kernel) (by decide +kernel)
theorem kf_X10_30 : Cond.fieldLink RX10 30 "WordOnPostModel" "stays" "[I" ∈ gW := gW_of 1071 (by decide +kernel) (by decide +kernel)
theorem kf_X10_33 : Cond.fieldLink RX10 33 "WordOnPostModel" "words" "[I" ∈ gW := gW_of 1072 (by decide +kernel) (by decide +kernel)
theorem kf_X10_36 : Cond.fieldLink RX10 36 "WordOnPostModel" "crosses" "[Z" ∈ gW := gW_of 1073 (by decide +kernel) (by decide +kernel)
theorem kf_X10_39 : Cond.fieldLink RX10 39 "WordOnPostModel" "isSound" "[Z" ∈ gW := gW_of 1074 (by decide +kernel) (by decide +kernel)
theorem kf_X10_179 : Cond.fieldLink RX10 179 "WordOnPostModel" "lastMonth" "I" ∈ gW := gW_of 1075 (by decide +kernel) (by decide +kernel)
theorem kf_X10_186 : Cond.fieldLink RX10 186 "WordOnPostModel" "isOver" "Z" ∈ gW := gW_of 1076 (by decide +kernel) (by decide +kernel)
theorem kf_X10_42 : Cond.fieldLink RX10 42 "WordOnPostModel" "lives" "[I" ∈ gW := gW_of 1077 (by decide +kernel) (by decide +kernel)
theorem kf_X10_45 : Cond.fieldLink RX10 45 "WordOnPostModel" "mayAll" "[Z" ∈ gW := gW_of 1078 (by decide +kernel) (by decide +kernel)
theorem kf_X10_48 : Cond.fieldLink RX10 48 "WordOnPostModel" "reached" "[I" ∈ gW := gW_of 1079 (by decide +kernel) (by decide +kernel)
theorem km_L_9 : Cond.methodLink RL 9 yX9_init ∈ gW := gW_of 115 (by decide +kernel) (by decide +kernel)
theorem km_X9_1 : Cond.methodLink RX9 1 ⟨"java/lang/Object", "<init>", "()V"⟩ ∈ gW := gW_of 118 (by decide +kernel) (by decide +kernel)
theorem km_X9_9 : Cond.methodLink RX9 9 yX8_init ∈ gW := gW_of 123 (by decide +kernel) (by decide +kernel)
theorem km_X8_3 : Cond.methodLink RX8 3 ⟨"java/lang/Object", "<init>", "()V"⟩ ∈ gW := gW_of 126 (by decide +kernel) (by decide +kernel)
theorem km_X8_11 : Cond.methodLink RX8 11 yX3_init ∈ gW := gW_of 129 (by decide +kernel) (by decide +kernel)
theorem km_X3_3 : Cond.methodLink RX3 3 ⟨"java/lang/Object", "<init>", "()V"⟩ ∈ gW := gW_of 132 (by decide +kernel) (by decide +kernel)
theorem km_X3_11 : Cond.methodLink RX3 11 yX5_init ∈ gW := gW_of 135 (by decide +kernel) (by decide +kernel)
theorem km_X5_3 : Cond.methodLink RX5 3 ⟨"java/lang/Object", "<init>", "()V"⟩ ∈ gW := gW_of 138 (by decide +kernel) (by decide +kernel)
theorem km_X5_53 : Cond.methodLink RX5 53 yJ7_fill_53178 ∈ gW := gW_of 141 (by decide +kernel) (by decide +kernel)
theorem km_X7_3 : Cond.methodLink RX7 3 ⟨"java/lang/Object", "<init>", "()V"⟩ ∈ gW := gW_of 240 (by decide +kernel) (by decide +kernel)
theorem km_X6_3 : Cond.methodLink RX6 3 ⟨"java/lang/Object", "<init>", "()V"⟩ ∈ gW := gW_of 264 (by decide +kernel) (by decide +kernel)
theorem km_X8_25 : Cond.methodLink RX8 25 yX1_init ∈ gW := gW_of 337 (by decide +kernel) (by decide +kernel)
theorem km_X1_3 : Cond.methodLink RX1 3 ⟨"java/lang/Object", "<init>", "()V"⟩ ∈ gW := gW_of 340 (by decide +kernel) (by decide +kernel)
theorem km_X1_20 : Cond.methodLink RX1 20 yX0_init ∈ gW := gW_of 344 (by decide +kernel) (by decide +kernel)
theorem km_X0_1 : Cond.methodLink RX0 1 ⟨"java/lang/Object", "<init>", "()V"⟩ ∈ gW := gW_of 347 (by decide +kernel) (by decide +kernel)
theorem km_X0_7 : Cond.methodLink RX0 7 yJ9_max_7cf53 ∈ gW := gW_of 348 (by decide +kernel) (by decide +kernel)
theorem km_X8_41 : Cond.methodLink RX8 41 yX0_init ∈ gW := gW_of 375 (by decide +kernel) (by decide +kernel)
theorem km_X9_40 : Cond.methodLink RX9 40 yX2_init ∈ gW := gW_of 421 (by decide +kernel) (by decide +kernel)
theorem km_X2_3 : Cond.methodLink RX2 3 ⟨"java/lang/Object", "<init>", "()V"⟩ ∈ gW := gW_of 424 (by decide +kernel) (by decide +kernel)
theorem km_X2_11 : Cond.methodLink RX2 11 yX0_init ∈ gW := gW_of 426 (by decide +kernel) (by decide +kernel)
theorem km_X2_32 : Cond.methodLink RX2 32 yX0_become ∈ gW := gW_of 427 (by decide +kernel) (by decide +kernel)
theorem km_X4_3 : Cond.methodLink RX4 3 ⟨"java/lang/Object", "<init>", "()V"⟩ ∈ gW := gW_of 456 (by decide +kernel) (by decide +kernel)
theorem km_X9_54 : Cond.methodLink RX9 54 yX0_init ∈ gW := gW_of 465 (by decide +kernel) (by decide +kernel)
theorem km_X9_64 : Cond.methodLink RX9 64 yX5_init ∈ gW := gW_of 466 (by decide +kernel) (by decide +kernel)
theorem km_L_13 : Cond.methodLink RL 13 yX9_place ∈ gW := gW_of 504 (by decide +kernel) (by decide +kernel)
theorem km_X9_65 : Cond.methodLink RX9 65 yX9_outside ∈ gW := gW_of 508 (by decide +kernel) (by decide +kernel)
theorem km_X9_69 : Cond.methodLink RX9 69 yX9_bad ∈ gW := gW_of 511 (by decide +kernel) (by decide +kernel)
theorem km_X9_77 : Cond.methodLink RX9 77 yX9_full ∈ gW := gW_of 515 (by decide +kernel) (by decide +kernel)
theorem km_X9_84 : Cond.methodLink RX9 84 yX9_changed ∈ gW := gW_of 519 (by decide +kernel) (by decide +kernel)
theorem km_L_18 : Cond.methodLink RL 18 yX9_rain ∈ gW := gW_of 523 (by decide +kernel) (by decide +kernel)
theorem km_X9_90 : Cond.methodLink RX9 90 yX9_exchange ∈ gW := gW_of 527 (by decide +kernel) (by decide +kernel)
theorem km_L_23 : Cond.methodLink RL 23 yX9_lot ∈ gW := gW_of 531 (by decide +kernel) (by decide +kernel)
theorem km_L_27 : Cond.methodLink RL 27 yX9_put ∈ gW := gW_of 535 (by decide +kernel) (by decide +kernel)
theorem km_L_31 : Cond.methodLink RL 31 yX9_kind ∈ gW := gW_of 539 (by decide +kernel) (by decide +kernel)
theorem km_X9_103 : Cond.methodLink RX9 103 yX9_noKind ∈ gW := gW_of 543 (by decide +kernel) (by decide +kernel)
theorem km_L_36 : Cond.methodLink RL 36 yX9_prior ∈ gW := gW_of 546 (by decide +kernel) (by decide +kernel)
theorem km_X9_111 : Cond.methodLink RX9 111 yX9_noStory ∈ gW := gW_of 550 (by decide +kernel) (by decide +kernel)
theorem km_L_42 : Cond.methodLink RL 42 yX9_type ∈ gW := gW_of 553 (by decide +kernel) (by decide +kernel)
theorem km_L_47 : Cond.methodLink RL 47 yX9_clear ∈ gW := gW_of 557 (by decide +kernel) (by decide +kernel)
theorem km_L_51 : Cond.methodLink RL 51 yX9_fault ∈ gW := gW_of 561 (by decide +kernel) (by decide +kernel)
theorem km_X9_123 : Cond.methodLink RX9 123 yX3_refresh ∈ gW := gW_of 565 (by decide +kernel) (by decide +kernel)
theorem km_X3_60 : Cond.methodLink RX3 60 yX7_read ∈ gW := gW_of 569 (by decide +kernel) (by decide +kernel)
theorem km_X7_28 : Cond.methodLink RX7 28 yX7_isLetter ∈ gW := gW_of 573 (by decide +kernel) (by decide +kernel)
theorem km_X7_32 : Cond.methodLink RX7 32 yX7_readLetters ∈ gW := gW_of 576 (by decide +kernel) (by decide +kernel)
theorem km_X7_46 : Cond.methodLink RX7 46 yX7_wordOf ∈ gW := gW_of 580 (by decide +kernel) (by decide +kernel)
theorem km_X7_42 : Cond.methodLink RX7 42 yX7_keep ∈ gW := gW_of 588 (by decide +kernel) (by decide +kernel)
theorem km_X7_36 : Cond.methodLink RX7 36 yX7_isFigure ∈ gW := gW_of 592 (by decide +kernel) (by decide +kernel)
theorem km_X7_39 : Cond.methodLink RX7 39 yX7_readFigures ∈ gW := gW_of 595 (by decide +kernel) (by decide +kernel)
theorem km_X3_68 : Cond.methodLink RX3 68 yX6_read ∈ gW := gW_of 599 (by decide +kernel) (by decide +kernel)
theorem km_X6_38 : Cond.methodLink RX6 38 yJ7_fill_53178 ∈ gW := gW_of 603 (by decide +kernel) (by decide +kernel)
theorem km_X6_44 : Cond.methodLink RX6 44 yX7_tokenAt ∈ gW := gW_of 604 (by decide +kernel) (by decide +kernel)
theorem km_X6_50 : Cond.methodLink RX6 50 yX6_readItem ∈ gW := gW_of 608 (by decide +kernel) (by decide +kernel)
theorem km_X6_61 : Cond.methodLink RX6 61 yX6_mayBegin ∈ gW := gW_of 612 (by decide +kernel) (by decide +kernel)
theorem km_X6_65 : Cond.methodLink RX6 65 yX6_isLeg ∈ gW := gW_of 616 (by decide +kernel) (by decide +kernel)
theorem km_X6_68 : Cond.methodLink RX6 68 yX7_valueAt ∈ gW := gW_of 619 (by decide +kernel) (by decide +kernel)
theorem km_X6_71 : Cond.methodLink RX6 71 yX6_take ∈ gW := gW_of 623 (by decide +kernel) (by decide +kernel)
theorem km_X6_57 : Cond.methodLink RX6 57 yX6_stayUntil ∈ gW := gW_of 627 (by decide +kernel) (by decide +kernel)
theorem km_X6_54 : Cond.methodLink RX6 54 yX7_startAt ∈ gW := gW_of 631 (by decide +kernel) (by decide +kernel)
theorem km_X3_71 : Cond.methodLink RX3 71 yX5_feedsIn ∈ gW := gW_of 635 (by decide +kernel) (by decide +kernel)
theorem km_X3_75 : Cond.methodLink RX3 75 yX3_findTurns ∈ gW := gW_of 639 (by decide +kernel) (by decide +kernel)
theorem km_X3_81 : Cond.methodLink RX3 81 yX3_someoneMoves ∈ gW := gW_of 643 (by decide +kernel) (by decide +kernel)
theorem km_L_55 : Cond.methodLink RL 55 yX9_sign ∈ gW := gW_of 647 (by decide +kernel) (by decide +kernel)
theorem km_X9_135 : Cond.methodLink RX9 135 yX9_noPlace ∈ gW := gW_of 651 (by decide +kernel) (by decide +kernel)
theorem km_X9_138 : Cond.methodLink RX9 138 yX5_hasSign ∈ gW := gW_of 655 (by decide +kernel) (by decide +kernel)
theorem km_L_60 : Cond.methodLink RL 60 yX9_post ∈ gW := gW_of 659 (by decide +kernel) (by decide +kernel)
theorem km_L_65 : Cond.methodLink RL 65 yX9_teller ∈ gW := gW_of 663 (by decide +kernel) (by decide +kernel)
theorem km_X9_151 : Cond.methodLink RX9 151 yX9_noLot ∈ gW := gW_of 667 (by decide +kernel) (by decide +kernel)
theorem km_X9_154 : Cond.methodLink RX9 154 yX9_noMonth ∈ gW := gW_of 671 (by decide +kernel) (by decide +kernel)
theorem km_X9_157 : Cond.methodLink RX9 157 yX9_noWhere ∈ gW := gW_of 674 (by decide +kernel) (by decide +kernel)
theorem km_L_70 : Cond.methodLink RL 70 yX9_at ∈ gW := gW_of 678 (by decide +kernel) (by decide +kernel)
theorem km_X9_166 : Cond.methodLink RX9 166 yX9_hasFault ∈ gW := gW_of 682 (by decide +kernel) (by decide +kernel)
theorem km_X9_169 : Cond.methodLink RX9 169 yX9_no ∈ gW := gW_of 686 (by decide +kernel) (by decide +kernel)
theorem km_L_74 : Cond.methodLink RL 74 yX9_must ∈ gW := gW_of 690 (by decide +kernel) (by decide +kernel)
theorem km_X9_175 : Cond.methodLink RX9 175 yX3_allLive ∈ gW := gW_of 694 (by decide +kernel) (by decide +kernel)
theorem km_X3_88 : Cond.methodLink RX3 88 yJ7_fill_53178 ∈ gW := gW_of 698 (by decide +kernel) (by decide +kernel)
theorem km_X9_178 : Cond.methodLink RX9 178 yX3_left ∈ gW := gW_of 699 (by decide +kernel) (by decide +kernel)
theorem km_X3_108 : Cond.methodLink RX3 108 yJ9_min_7cf53 ∈ gW := gW_of 703 (by decide +kernel) (by decide +kernel)
theorem km_L_78 : Cond.methodLink RL 78 yX9_hunger ∈ gW := gW_of 706 (by decide +kernel) (by decide +kernel)
theorem km_X9_182 : Cond.methodLink RX9 182 yX3_hungerYears ∈ gW := gW_of 710 (by decide +kernel) (by decide +kernel)
theorem km_X3_113 : Cond.methodLink RX3 113 yX3_countHeads ∈ gW := gW_of 714 (by decide +kernel) (by decide +kernel)
theorem km_L_82 : Cond.methodLink RL 82 yX9_odds ∈ gW := gW_of 718 (by decide +kernel) (by decide +kernel)
theorem km_X9_185 : Cond.methodLink RX9 185 yX9_noWorlds ∈ gW := gW_of 722 (by decide +kernel) (by decide +kernel)
theorem km_X9_295 : Cond.methodLink RX9 295 yX8_refresh ∈ gW := gW_of 726 (by decide +kernel) (by decide +kernel)
theorem km_X8_64 : Cond.methodLink RX8 64 yX8_forgetSums ∈ gW := gW_of 730 (by decide +kernel) (by decide +kernel)
theorem km_X8_100 : Cond.methodLink RX8 100 yX0_become ∈ gW := gW_of 734 (by decide +kernel) (by decide +kernel)
theorem km_X8_67 : Cond.methodLink RX8 67 yX8_shareOut ∈ gW := gW_of 735 (by decide +kernel) (by decide +kernel)
theorem km_X8_111 : Cond.methodLink RX8 111 yX8_tellersShare ∈ gW := gW_of 739 (by decide +kernel) (by decide +kernel)
theorem km_X8_125 : Cond.methodLink RX8 125 yX5_isHeard ∈ gW := gW_of 743 (by decide +kernel) (by decide +kernel)
theorem km_X8_133 : Cond.methodLink RX8 133 yX8_of10 ∈ gW := gW_of 747 (by decide +kernel) (by decide +kernel)
theorem km_X8_115 : Cond.methodLink RX8 115 yX8_postShare ∈ gW := gW_of 750 (by decide +kernel) (by decide +kernel)
theorem km_X8_70 : Cond.methodLink RX8 70 yX1_refresh ∈ gW := gW_of 754 (by decide +kernel) (by decide +kernel)
theorem km_X1_44 : Cond.methodLink RX1 44 yX1_weighSign ∈ gW := gW_of 758 (by decide +kernel) (by decide +kernel)
theorem km_X1_48 : Cond.methodLink RX1 48 yX1_carry ∈ gW := gW_of 762 (by decide +kernel) (by decide +kernel)
theorem km_X1_69 : Cond.methodLink RX1 69 yX0_become ∈ gW := gW_of 766 (by decide +kernel) (by decide +kernel)
theorem km_X1_52 : Cond.methodLink RX1 52 yX1_of ∈ gW := gW_of 767 (by decide +kernel) (by decide +kernel)
theorem km_X1_56 : Cond.methodLink RX1 56 yX0_copy ∈ gW := gW_of 771 (by decide +kernel) (by decide +kernel)
theorem km_X0_25 : Cond.methodLink RX0 25 yJ9_min_7cf53 ∈ gW := gW_of 775 (by decide +kernel) (by decide +kernel)
theorem km_X0_28 : Cond.methodLink RX0 28 ⟨"java/lang/System", "arraycopy", "(Ljava/lang/Object;ILjava/lang/Object;II)V"⟩ ∈ gW := gW_of 776 (by decide +kernel) (by decide +kernel)
theorem km_X1_60 : Cond.methodLink RX1 60 yX0_timesPower ∈ gW := gW_of 779 (by decide +kernel) (by decide +kernel)
theorem km_X0_34 : Cond.methodLink RX0 34 yX0_times ∈ gW := gW_of 783 (by decide +kernel) (by decide +kernel)
theorem km_X1_63 : Cond.methodLink RX1 63 yX0_times ∈ gW := gW_of 787 (by decide +kernel) (by decide +kernel)
theorem km_X1_66 : Cond.methodLink RX1 66 yX0_plus ∈ gW := gW_of 788 (by decide +kernel) (by decide +kernel)
theorem km_X0_38 : Cond.methodLink RX0 38 yX0_growTo ∈ gW := gW_of 792 (by decide +kernel) (by decide +kernel)
theorem km_X0_42 : Cond.methodLink RX0 42 yX0_trim ∈ gW := gW_of 797 (by decide +kernel) (by decide +kernel)
theorem km_X8_80 : Cond.methodLink RX8 80 yX3_mostHunger ∈ gW := gW_of 801 (by decide +kernel) (by decide +kernel)
theorem km_X8_90 : Cond.methodLink RX8 90 yX3_choose ∈ gW := gW_of 805 (by decide +kernel) (by decide +kernel)
theorem km_X8_94 : Cond.methodLink RX8 94 yX8_weigh ∈ gW := gW_of 809 (by decide +kernel) (by decide +kernel)
theorem km_X8_149 : Cond.methodLink RX8 149 yX0_times ∈ gW := gW_of 813 (by decide +kernel) (by decide +kernel)
theorem km_X8_155 : Cond.methodLink RX8 155 yX0_isZero ∈ gW := gW_of 814 (by decide +kernel) (by decide +kernel)
theorem km_X8_162 : Cond.methodLink RX8 162 yX3_left ∈ gW := gW_of 818 (by decide +kernel) (by decide +kernel)
theorem km_X8_166 : Cond.methodLink RX8 166 yX1_of ∈ gW := gW_of 819 (by decide +kernel) (by decide +kernel)
theorem km_X8_170 : Cond.methodLink RX8 170 yX0_product ∈ gW := gW_of 820 (by decide +kernel) (by decide +kernel)
theorem km_X8_174 : Cond.methodLink RX8 174 yX3_hungerYears ∈ gW := gW_of 824 (by decide +kernel) (by decide +kernel)
theorem km_X8_177 : Cond.methodLink RX8 177 yX0_timesPower ∈ gW := gW_of 825 (by decide +kernel) (by decide +kernel)
theorem km_X8_97 : Cond.methodLink RX8 97 yX8_addUp ∈ gW := gW_of 826 (by decide +kernel) (by decide +kernel)
theorem km_X8_181 : Cond.methodLink RX8 181 yX0_plus ∈ gW := gW_of 830 (by decide +kernel) (by decide +kernel)
theorem km_X8_185 : Cond.methodLink RX8 185 yX8_livedBy ∈ gW := gW_of 831 (by decide +kernel) (by decide +kernel)
theorem km_X8_188 : Cond.methodLink RX8 188 yX3_doAllLive ∈ gW := gW_of 835 (by decide +kernel) (by decide +kernel)
theorem km_X9_299 : Cond.methodLink RX9 299 yX0_isZero ∈ gW := gW_of 839 (by decide +kernel) (by decide +kernel)
theorem km_X9_189 : Cond.methodLink RX9 189 yX8_livedBy ∈ gW := gW_of 840 (by decide +kernel) (by decide +kernel)
theorem km_X9_193 : Cond.methodLink RX9 193 yX9_answerShare ∈ gW := gW_of 841 (by decide +kernel) (by decide +kernel)
theorem km_X9_231 : Cond.methodLink RX9 231 yX2_become ∈ gW := gW_of 845 (by decide +kernel) (by decide +kernel)
theorem km_X2_36 : Cond.methodLink RX2 36 yX0_copy ∈ gW := gW_of 849 (by decide +kernel) (by decide +kernel)
theorem km_X2_40 : Cond.methodLink RX2 40 yX2_findDivisor ∈ gW := gW_of 850 (by decide +kernel) (by decide +kernel)
theorem km_X2_48 : Cond.methodLink RX2 48 yX0_isZero ∈ gW := gW_of 855 (by decide +kernel) (by decide +kernel)
theorem km_X2_43 : Cond.methodLink RX2 43 yX0_divide ∈ gW := gW_of 856 (by decide +kernel) (by decide +kernel)
theorem km_X0_45 : Cond.methodLink RX0 45 yX0_become ∈ gW := gW_of 860 (by decide +kernel) (by decide +kernel)
theorem km_X0_50 : Cond.methodLink RX0 50 yX0_isZero ∈ gW := gW_of 862 (by decide +kernel) (by decide +kernel)
theorem km_X0_54 : Cond.methodLink RX0 54 yX0_isBelow ∈ gW := gW_of 863 (by decide +kernel) (by decide +kernel)
theorem km_X0_58 : Cond.methodLink RX0 58 yX0_digit ∈ gW := gW_of 867 (by decide +kernel) (by decide +kernel)
theorem km_X0_62 : Cond.methodLink RX0 62 yX0_topTwo ∈ gW := gW_of 871 (by decide +kernel) (by decide +kernel)
theorem km_X0_66 : Cond.methodLink RX0 66 yJ9_max_f86c9 ∈ gW := gW_of 875 (by decide +kernel) (by decide +kernel)
theorem km_X0_69 : Cond.methodLink RX0 69 yX0_takeAway ∈ gW := gW_of 878 (by decide +kernel) (by decide +kernel)
theorem km_X0_73 : Cond.methodLink RX0 73 yX0_raise ∈ gW := gW_of 882 (by decide +kernel) (by decide +kernel)
theorem km_L_86 : Cond.methodLink RL 86 yX9_all ∈ gW := gW_of 886 (by decide +kernel) (by decide +kernel)
theorem km_L_90 : Cond.methodLink RL 90 yX9_where ∈ gW := gW_of 890 (by decide +kernel) (by decide +kernel)
theorem km_X9_201 : Cond.methodLink RX9 201 yX8_gatherWhere ∈ gW := gW_of 894 (by decide +kernel) (by decide +kernel)
theorem km_L_94 : Cond.methodLink RL 94 yX9_so ∈ gW := gW_of 898 (by decide +kernel) (by decide +kernel)
theorem km_L_98 : Cond.methodLink RL 98 yX9_lost ∈ gW := gW_of 902 (by decide +kernel) (by decide +kernel)
theorem km_X9_205 : Cond.methodLink RX9 205 yX8_lostOf ∈ gW := gW_of 906 (by decide +kernel) (by decide +kernel)
theorem km_L_102 : Cond.methodLink RL 102 yX9_next ∈ gW := gW_of 910 (by decide +kernel) (by decide +kernel)
theorem km_X9_209 : Cond.methodLink RX9 209 yX8_digNext ∈ gW := gW_of 914 (by decide +kernel) (by decide +kernel)
theorem km_X8_194 : Cond.methodLink RX8 194 yX5_hasSign ∈ gW := gW_of 918 (by decide +kernel) (by decide +kernel)
theorem km_X8_198 : Cond.methodLink RX8 198 yX8_differenceAt ∈ gW := gW_of 919 (by decide +kernel) (by decide +kernel)
theorem km_X8_201 : Cond.methodLink RX8 201 yX3_allLive ∈ gW := gW_of 923 (by decide +kernel) (by decide +kernel)
theorem km_X8_204 : Cond.methodLink RX8 204 yJ9_min_7cf53 ∈ gW := gW_of 924 (by decide +kernel) (by decide +kernel)
theorem km_X8_209 : Cond.methodLink RX8 209 yJ9_max_7cf53 ∈ gW := gW_of 925 (by decide +kernel) (by decide +kernel)
theorem km_L_107 : Cond.methodLink RL 107 yX9_fed ∈ gW := gW_of 926 (by decide +kernel) (by decide +kernel)
theorem km_X9_212 : Cond.methodLink RX9 212 yX5_feedsIn ∈ gW := gW_of 930 (by decide +kernel) (by decide +kernel)
theorem km_L_111 : Cond.methodLink RL 111 yX9_dry ∈ gW := gW_of 931 (by decide +kernel) (by decide +kernel)
theorem km_X9_215 : Cond.methodLink RX9 215 yX9_worse ∈ gW := gW_of 935 (by decide +kernel) (by decide +kernel)
theorem km_L_115 : Cond.methodLink RL 115 yX9_many ∈ gW := gW_of 939 (by decide +kernel) (by decide +kernel)
theorem km_X9_218 : Cond.methodLink RX9 218 yJ9_min_7cf53 ∈ gW := gW_of 943 (by decide +kernel) (by decide +kernel)
theorem km_L_119 : Cond.methodLink RL 119 yX9_stone ∈ gW := gW_of 944 (by decide +kernel) (by decide +kernel)
theorem km_X9_223 : Cond.methodLink RX9 223 yX9_rightLetters ∈ gW := gW_of 948 (by decide +kernel) (by decide +kernel)
theorem km_X9_227 : Cond.methodLink RX9 227 yX0_become ∈ gW := gW_of 951 (by decide +kernel) (by decide +kernel)
theorem km_L_123 : Cond.methodLink RL 123 yX9_days ∈ gW := gW_of 952 (by decide +kernel) (by decide +kernel)
theorem km_L_127 : Cond.methodLink RL 127 yX9_storm ∈ gW := gW_of 956 (by decide +kernel) (by decide +kernel)
theorem km_L_131 : Cond.methodLink RL 131 yX9_sails ∈ gW := gW_of 960 (by decide +kernel) (by decide +kernel)
theorem km_X9_240 : Cond.methodLink RX9 240 yX4_firstDayAt ∈ gW := gW_of 964 (by decide +kernel) (by decide +kernel)
theorem km_X4_18 : Cond.methodLink RX4 18 yJ7_fill_53178 ∈ gW := gW_of 968 (by decide +kernel) (by decide +kernel)
theorem km_X4_30 : Cond.methodLink RX4 30 yX4_soonest ∈ gW := gW_of 969 (by decide +kernel) (by decide +kernel)
theorem km_X4_34 : Cond.methodLink RX4 34 yX4_sailOnFrom ∈ gW := gW_of 973 (by decide +kernel) (by decide +kernel)
theorem km_X4_45 : Cond.methodLink RX4 45 yX4_endOfLeg ∈ gW := gW_of 977 (by decide +kernel) (by decide +kernel)
theorem km_L_135 : Cond.methodLink RL 135 yX9_back ∈ gW := gW_of 980 (by decide +kernel) (by decide +kernel)
theorem km_L_139 : Cond.methodLink RL 139 yX9_part ∈ gW := gW_of 984 (by decide +kernel) (by decide +kernel)
theorem km_X9_244 : Cond.methodLink RX9 244 yX9_partOf ∈ gW := gW_of 988 (by decide +kernel) (by decide +kernel)
theorem km_L_143 : Cond.methodLink RL 143 yX9_limb ∈ gW := gW_of 992 (by decide +kernel) (by decide +kernel)
theorem km_X9_256 : Cond.methodLink RX9 256 yX0_digit ∈ gW := gW_of 996 (by decide +kernel) (by decide +kernel)
theorem km_L_147 : Cond.methodLink RL 147 yX9_image ∈ gW := gW_of 997 (by decide +kernel) (by decide +kernel)
theorem km_X9_259 : Cond.methodLink RX9 259 yX5_copy ∈ gW := gW_of 1001 (by decide +kernel) (by decide +kernel)
theorem km_X5_72 : Cond.methodLink RX5 72 yX5_copyRow ∈ gW := gW_of 1005 (by decide +kernel) (by decide +kernel)
theorem km_X5_80 : Cond.methodLink RX5 80 yJ9_min_7cf53 ∈ gW := gW_of 1008 (by decide +kernel) (by decide +kernel)
theorem km_X5_86 : Cond.methodLink RX5 86 ⟨"java/lang/System", "arraycopy", "(Ljava/lang/Object;ILjava/lang/Object;II)V"⟩ ∈ gW := gW_of 1009 (by decide +kernel) (by decide +kernel)
theorem km_X5_76 : Cond.methodLink RX5 76 yX5_copyRows ∈ gW := gW_of 1010 (by decide +kernel) (by decide +kernel)
theorem km_L_151 : Cond.methodLink RL 151 yX9_from ∈ gW := gW_of 1013 (by decide +kernel) (by decide +kernel)
theorem km_L_155 : Cond.methodLink RL 155 yX9_status ∈ gW := gW_of 1017 (by decide +kernel) (by decide +kernel)
theorem km_L_159 : Cond.methodLink RL 159 yX9_count ∈ gW := gW_of 1021 (by decide +kernel) (by decide +kernel)
theorem km_X9_272 : Cond.methodLink RX9 272 yX5_countOf ∈ gW := gW_of 1025 (by decide +kernel) (by decide +kernel)
theorem km_L_163 : Cond.methodLink RL 163 yX9_digest ∈ gW := gW_of 1029 (by decide +kernel) (by decide +kernel)
theorem km_X9_277 : Cond.methodLink RX9 277 yX5_digestOnto ∈ gW := gW_of 1034 (by decide +kernel) (by decide +kernel)
theorem km_X5_94 : Cond.methodLink RX5 94 yX5_countOf ∈ gW := gW_of 1039 (by decide +kernel) (by decide +kernel)
theorem km_X5_102 : Cond.methodLink RX5 102 yX5_digestRows ∈ gW := gW_of 1044 (by decide +kernel) (by decide +kernel)
theorem km_X9_286 : Cond.methodLink RX9 286 yX9_digestRow ∈ gW := gW_of 1047 (by decide +kernel) (by decide +kernel)
theorem km_L_12 : Cond.methodLink RL 12 yX10_init ∈ gW := gW_of 1050 (by decide +kernel) (by decide +kernel)
theorem km_X10_1 : Cond.methodLink RX10 1 ⟨"java/lang/Object", "<init>", "()V"⟩ ∈ gW := gW_of 1053 (by decide +kernel) (by decide +kernel)
theorem km_X10_51 : Cond.methodLink RX10 51 yX10_set ∈ gW := gW_of 1054 (by decide +kernel) (by decide +kernel)
theorem km_L_17 : Cond.methodLink RL 17 yX10_place ∈ gW := gW_of 1124 (by decide +kernel) (by decide +kernel)
theorem km_X10_105 : Cond.methodLink RX10 105 yX10_in ∈ gW := gW_of 1129 (by decide +kernel) (by decide +kernel)
theorem km_X10_118 : Cond.methodLink RX10 118 yX10_bad ∈ gW := gW_of 1132 (by decide +kernel) (by decide +kernel)
theorem km_X10_101 : Cond.methodLink RX10 101 yX10_places ∈ gW := gW_of 1136 (by decide +kernel) (by decide +kernel)
theorem km_X10_122 : Cond.methodLink RX10 122 yX10_full ∈ gW := gW_of 1140 (by decide +kernel) (by decide +kernel)
theorem km_L_22 : Cond.methodLink RL 22 yX10_rain ∈ gW := gW_of 1144 (by decide +kernel) (by decide +kernel)
theorem km_L_26 : Cond.methodLink RL 26 yX10_lot ∈ gW := gW_of 1149 (by decide +kernel) (by decide +kernel)
theorem km_X10_109 : Cond.methodLink RX10 109 yX10_lots ∈ gW := gW_of 1154 (by decide +kernel) (by decide +kernel)
theorem km_L_30 : Cond.methodLink RL 30 yX10_put ∈ gW := gW_of 1158 (by decide +kernel) (by decide +kernel)
theorem km_L_35 : Cond.methodLink RL 35 yX10_kind ∈ gW := gW_of 1162 (by decide +kernel) (by decide +kernel)
theorem km_X10_129 : Cond.methodLink RX10 129 yX10_isFour ∈ gW := gW_of 1166 (by decide +kernel) (by decide +kernel)
theorem km_L_39 : Cond.methodLink RL 39 yX10_prior ∈ gW := gW_of 1171 (by decide +kernel) (by decide +kernel)
theorem km_L_46 : Cond.methodLink RL 46 yX10_type ∈ gW := gW_of 1175 (by decide +kernel) (by decide +kernel)
theorem km_X10_136 : Cond.methodLink RX10 136 yX10_textLong ∈ gW := gW_of 1180 (by decide +kernel) (by decide +kernel)
theorem km_L_50 : Cond.methodLink RL 50 yX10_clear ∈ gW := gW_of 1185 (by decide +kernel) (by decide +kernel)
theorem km_L_54 : Cond.methodLink RL 54 yX10_fault ∈ gW := gW_of 1189 (by decide +kernel) (by decide +kernel)
theorem km_X10_206 : Cond.methodLink RX10 206 yX10_readsStory ∈ gW := gW_of 1193 (by decide +kernel) (by decide +kernel)
theorem km_X10_200 : Cond.methodLink RX10 200 yX10_layFrom ∈ gW := gW_of 1197 (by decide +kernel) (by decide +kernel)
theorem km_X10_173 : Cond.methodLink RX10 173 yX10_look ∈ gW := gW_of 1201 (by decide +kernel) (by decide +kernel)
theorem km_X10_155 : Cond.methodLink RX10 155 yX10_byteAt ∈ gW := gW_of 1205 (by decide +kernel) (by decide +kernel)
theorem km_X10_167 : Cond.methodLink RX10 167 yX10_isSmall ∈ gW := gW_of 1209 (by decide +kernel) (by decide +kernel)
theorem km_X10_170 : Cond.methodLink RX10 170 yX10_isFigure ∈ gW := gW_of 1214 (by decide +kernel) (by decide +kernel)
theorem km_X10_203 : Cond.methodLink RX10 203 yX10_readItem ∈ gW := gW_of 1219 (by decide +kernel) (by decide +kernel)
theorem km_X10_182 : Cond.methodLink RX10 182 yX10_isWord ∈ gW := gW_of 1223 (by decide +kernel) (by decide +kernel)
theorem km_X10_176 : Cond.methodLink RX10 176 yX10_goOn ∈ gW := gW_of 1227 (by decide +kernel) (by decide +kernel)
theorem km_X10_190 : Cond.methodLink RX10 190 yX10_takesMonth ∈ gW := gW_of 1231 (by decide +kernel) (by decide +kernel)
theorem km_X10_194 : Cond.methodLink RX10 194 yX10_isPlace ∈ gW := gW_of 1236 (by decide +kernel) (by decide +kernel)
theorem km_X10_197 : Cond.methodLink RX10 197 yX10_stops ∈ gW := gW_of 1240 (by decide +kernel) (by decide +kernel)
theorem km_L_59 : Cond.methodLink RL 59 yX10_sign ∈ gW := gW_of 1244 (by decide +kernel) (by decide +kernel)
theorem km_X10_211 : Cond.methodLink RX10 211 yX10_isSigned ∈ gW := gW_of 1249 (by decide +kernel) (by decide +kernel)
theorem km_X10_215 : Cond.methodLink RX10 215 yX10_signs ∈ gW := gW_of 1253 (by decide +kernel) (by decide +kernel)
theorem km_L_64 : Cond.methodLink RL 64 yX10_post ∈ gW := gW_of 1257 (by decide +kernel) (by decide +kernel)
theorem km_L_69 : Cond.methodLink RL 69 yX10_teller ∈ gW := gW_of 1261 (by decide +kernel) (by decide +kernel)
theorem km_X10_220 : Cond.methodLink RX10 220 yX10_isLot ∈ gW := gW_of 1266 (by decide +kernel) (by decide +kernel)
theorem km_X10_223 : Cond.methodLink RX10 223 yX10_isMonth ∈ gW := gW_of 1270 (by decide +kernel) (by decide +kernel)
theorem km_X10_226 : Cond.methodLink RX10 226 yX10_isWhere ∈ gW := gW_of 1273 (by decide +kernel) (by decide +kernel)
theorem km_X10_229 : Cond.methodLink RX10 229 yX10_tellers ∈ gW := gW_of 1277 (by decide +kernel) (by decide +kernel)
theorem km_L_73 : Cond.methodLink RL 73 yX10_at ∈ gW := gW_of 1281 (by decide +kernel) (by decide +kernel)
theorem km_X10_289 : Cond.methodLink RX10 289 yX10_laysOne ∈ gW := gW_of 1285 (by decide +kernel) (by decide +kernel)
theorem km_X10_267 : Cond.methodLink RX10 267 yX10_readAll ∈ gW := gW_of 1289 (by decide +kernel) (by decide +kernel)
theorem km_X10_286 : Cond.methodLink RX10 286 yX10_no ∈ gW := gW_of 1293 (by decide +kernel) (by decide +kernel)
theorem km_L_77 : Cond.methodLink RL 77 yX10_must ∈ gW := gW_of 1297 (by decide +kernel) (by decide +kernel)
theorem km_X10_241 : Cond.methodLink RX10 241 yX10_leftOf ∈ gW := gW_of 1301 (by decide +kernel) (by decide +kernel)
theorem km_X10_232 : Cond.methodLink RX10 232 yX10_whereOf ∈ gW := gW_of 1305 (by decide +kernel) (by decide +kernel)
theorem km_L_81 : Cond.methodLink RL 81 yX10_hunger ∈ gW := gW_of 1309 (by decide +kernel) (by decide +kernel)
theorem km_X10_251 : Cond.methodLink RX10 251 yX10_hungerOf ∈ gW := gW_of 1313 (by decide +kernel) (by decide +kernel)
theorem km_X10_238 : Cond.methodLink RX10 238 yX10_isHungry ∈ gW := gW_of 1317 (by decide +kernel) (by decide +kernel)
theorem km_X10_235 : Cond.methodLink RX10 235 yX10_fedOf ∈ gW := gW_of 1321 (by decide +kernel) (by decide +kernel)
theorem km_L_85 : Cond.methodLink RL 85 yX10_odds ∈ gW := gW_of 1325 (by decide +kernel) (by decide +kernel)
theorem km_X10_292 : Cond.methodLink RX10 292 yX10_tellsShare ∈ gW := gW_of 1329 (by decide +kernel) (by decide +kernel)
theorem km_X10_283 : Cond.methodLink RX10 283 yX10_sumsUp ∈ gW := gW_of 1333 (by decide +kernel) (by decide +kernel)
theorem km_X10_270 : Cond.methodLink RX10 270 yX10_worlds ∈ gW := gW_of 1337 (by decide +kernel) (by decide +kernel)
theorem km_X10_273 : Cond.methodLink RX10 273 yX10_laysWorld ∈ gW := gW_of 1341 (by decide +kernel) (by decide +kernel)
theorem km_X10_276 : Cond.methodLink RX10 276 yX10_weigh ∈ gW := gW_of 1345 (by decide +kernel) (by decide +kernel)
theorem km_X10_81 : Cond.methodLink RX10 81 yX10_times ∈ gW := gW_of 1349 (by decide +kernel) (by decide +kernel)
theorem km_X10_57 : Cond.methodLink RX10 57 yX10_trim ∈ gW := gW_of 1353 (by decide +kernel) (by decide +kernel)
theorem km_X10_244 : Cond.methodLink RX10 244 yX10_timesAll ∈ gW := gW_of 1357 (by decide +kernel) (by decide +kernel)
theorem km_X10_254 : Cond.methodLink RX10 254 yX10_isHeard ∈ gW := gW_of 1361 (by decide +kernel) (by decide +kernel)
theorem km_X10_257 : Cond.methodLink RX10 257 yX10_isSaidSo ∈ gW := gW_of 1365 (by decide +kernel) (by decide +kernel)
theorem km_X10_260 : Cond.methodLink RX10 260 yX10_findSign ∈ gW := gW_of 1369 (by decide +kernel) (by decide +kernel)
theorem km_X10_248 : Cond.methodLink RX10 248 yX10_add ∈ gW := gW_of 1373 (by decide +kernel) (by decide +kernel)
theorem km_X10_263 : Cond.methodLink RX10 263 yX10_product ∈ gW := gW_of 1377 (by decide +kernel) (by decide +kernel)
theorem km_X10_63 : Cond.methodLink RX10 63 yX10_copy ∈ gW := gW_of 1381 (by decide +kernel) (by decide +kernel)
theorem km_X10_279 : Cond.methodLink RX10 279 yX10_holds ∈ gW := gW_of 1385 (by decide +kernel) (by decide +kernel)
theorem km_X10_97 : Cond.methodLink RX10 97 yX10_tell ∈ gW := gW_of 1389 (by decide +kernel) (by decide +kernel)
theorem km_X10_91 : Cond.methodLink RX10 91 yX10_findDivisor ∈ gW := gW_of 1393 (by decide +kernel) (by decide +kernel)
theorem km_X10_67 : Cond.methodLink RX10 67 yX10_isEven ∈ gW := gW_of 1397 (by decide +kernel) (by decide +kernel)
theorem km_X10_71 : Cond.methodLink RX10 71 yX10_halve ∈ gW := gW_of 1402 (by decide +kernel) (by decide +kernel)
theorem km_X10_74 : Cond.methodLink RX10 74 yX10_compare ∈ gW := gW_of 1406 (by decide +kernel) (by decide +kernel)
theorem km_X10_78 : Cond.methodLink RX10 78 yX10_take ∈ gW := gW_of 1410 (by decide +kernel) (by decide +kernel)
theorem km_X10_94 : Cond.methodLink RX10 94 yX10_divide ∈ gW := gW_of 1414 (by decide +kernel) (by decide +kernel)
theorem km_X10_84 : Cond.methodLink RX10 84 yX10_addOne ∈ gW := gW_of 1418 (by decide +kernel) (by decide +kernel)
theorem km_L_89 : Cond.methodLink RL 89 yX10_all ∈ gW := gW_of 1422 (by decide +kernel) (by decide +kernel)
theorem km_L_93 : Cond.methodLink RL 93 yX10_where ∈ gW := gW_of 1426 (by decide +kernel) (by decide +kernel)
theorem km_L_97 : Cond.methodLink RL 97 yX10_so ∈ gW := gW_of 1430 (by decide +kernel) (by decide +kernel)
theorem km_L_101 : Cond.methodLink RL 101 yX10_lost ∈ gW := gW_of 1434 (by decide +kernel) (by decide +kernel)
theorem km_L_106 : Cond.methodLink RL 106 yX10_next ∈ gW := gW_of 1438 (by decide +kernel) (by decide +kernel)
theorem km_X10_296 : Cond.methodLink RX10 296 yX10_differs ∈ gW := gW_of 1442 (by decide +kernel) (by decide +kernel)
theorem km_L_110 : Cond.methodLink RL 110 yX10_fed ∈ gW := gW_of 1446 (by decide +kernel) (by decide +kernel)
theorem km_X10_299 : Cond.methodLink RX10 299 yX10_isYear ∈ gW := gW_of 1450 (by decide +kernel) (by decide +kernel)
theorem km_L_114 : Cond.methodLink RL 114 yX10_dry ∈ gW := gW_of 1453 (by decide +kernel) (by decide +kernel)
theorem km_L_118 : Cond.methodLink RL 118 yX10_many ∈ gW := gW_of 1457 (by decide +kernel) (by decide +kernel)
theorem km_L_122 : Cond.methodLink RL 122 yX10_stone ∈ gW := gW_of 1463 (by decide +kernel) (by decide +kernel)
theorem km_X10_308 : Cond.methodLink RX10 308 yX10_power ∈ gW := gW_of 1468 (by decide +kernel) (by decide +kernel)
theorem km_X10_312 : Cond.methodLink RX10 312 yX10_tells ∈ gW := gW_of 1471 (by decide +kernel) (by decide +kernel)
theorem km_L_126 : Cond.methodLink RL 126 yX10_days ∈ gW := gW_of 1475 (by decide +kernel) (by decide +kernel)
theorem km_L_130 : Cond.methodLink RL 130 yX10_storm ∈ gW := gW_of 1479 (by decide +kernel) (by decide +kernel)
theorem km_X10_318 : Cond.methodLink RX10 318 yX10_isDay ∈ gW := gW_of 1483 (by decide +kernel) (by decide +kernel)
theorem km_L_134 : Cond.methodLink RL 134 yX10_sails ∈ gW := gW_of 1487 (by decide +kernel) (by decide +kernel)
theorem km_X10_324 : Cond.methodLink RX10 324 yX10_sailsTo ∈ gW := gW_of 1491 (by decide +kernel) (by decide +kernel)
theorem km_X10_321 : Cond.methodLink RX10 321 yX10_dayBehind ∈ gW := gW_of 1495 (by decide +kernel) (by decide +kernel)
theorem km_L_138 : Cond.methodLink RL 138 yX10_back ∈ gW := gW_of 1499 (by decide +kernel) (by decide +kernel)
theorem km_L_142 : Cond.methodLink RL 142 yX10_part ∈ gW := gW_of 1503 (by decide +kernel) (by decide +kernel)
theorem km_L_146 : Cond.methodLink RL 146 yX10_limb ∈ gW := gW_of 1507 (by decide +kernel) (by decide +kernel)
theorem km_L_150 : Cond.methodLink RL 150 yX10_image ∈ gW := gW_of 1511 (by decide +kernel) (by decide +kernel)
theorem km_L_154 : Cond.methodLink RL 154 yX10_from ∈ gW := gW_of 1515 (by decide +kernel) (by decide +kernel)
theorem km_L_158 : Cond.methodLink RL 158 yX10_status ∈ gW := gW_of 1519 (by decide +kernel) (by decide +kernel)
theorem km_L_162 : Cond.methodLink RL 162 yX10_count ∈ gW := gW_of 1523 (by decide +kernel) (by decide +kernel)
theorem km_X10_330 : Cond.methodLink RX10 330 yX10_counted ∈ gW := gW_of 1528 (by decide +kernel) (by decide +kernel)
theorem km_L_167 : Cond.methodLink RL 167 yX10_digest ∈ gW := gW_of 1532 (by decide +kernel) (by decide +kernel)
theorem km_X10_337 : Cond.methodLink RX10 337 yX10_sums ∈ gW := gW_of 1538 (by decide +kernel) (by decide +kernel)
theorem kc_X0_41 : Cond.constant RX0 41 (1073741823) ∈ gW := gW_of 796 (by decide +kernel) (by decide +kernel)
theorem kc_X2_47 : Cond.constant RX2 47 (1000000) ∈ gW := gW_of 854 (by decide +kernel) (by decide +kernel)
theorem kc_X0_49 : Cond.constant RX0 49 (1000000) ∈ gW := gW_of 861 (by decide +kernel) (by decide +kernel)
theorem kl_X0_23 : Cond.constantLong RX0 23 (1073741823) ∈ gW := gW_of 431 (by decide +kernel) (by decide +kernel)
theorem kl_X7_50 : Cond.constantLong RX7 50 (26479) ∈ gW := gW_of 583 (by decide +kernel) (by decide +kernel)
theorem kl_X7_52 : Cond.constantLong RX7 52 (1785686382) ∈ gW := gW_of 584 (by decide +kernel) (by decide +kernel)
theorem kl_X7_54 : Cond.constantLong RX7 54 (6580581) ∈ gW := gW_of 585 (by decide +kernel) (by decide +kernel)
theorem kl_X7_56 : Cond.constantLong RX7 56 (2003792484) ∈ gW := gW_of 586 (by decide +kernel) (by decide +kernel)
theorem kl_X7_58 : Cond.constantLong RX7 58 (427121668979) ∈ gW := gW_of 587 (by decide +kernel) (by decide +kernel)
theorem kl_X9_275 : Cond.constantLong RX9 275 (569) ∈ gW := gW_of 1033 (by decide +kernel) (by decide +kernel)
theorem kl_X5_92 : Cond.constantLong RX5 92 (31) ∈ gW := gW_of 1038 (by decide +kernel) (by decide +kernel)
theorem kl_X9_281 : Cond.constantLong RX9 281 (31) ∈ gW := gW_of 1043 (by decide +kernel) (by decide +kernel)
theorem kl_X10_55 : Cond.constantLong RX10 55 (1073741824) ∈ gW := gW_of 1058 (by decide +kernel) (by decide +kernel)
theorem kl_X10_116 : Cond.constantLong RX10 116 (200) ∈ gW := gW_of 1128 (by decide +kernel) (by decide +kernel)
theorem kl_X10_125 : Cond.constantLong RX10 125 (9) ∈ gW := gW_of 1148 (by decide +kernel) (by decide +kernel)
theorem kl_X10_127 : Cond.constantLong RX10 127 (60) ∈ gW := gW_of 1153 (by decide +kernel) (by decide +kernel)
theorem kl_X10_112 : Cond.constantLong RX10 112 (3) ∈ gW := gW_of 1169 (by decide +kernel) (by decide +kernel)
theorem kl_X10_132 : Cond.constantLong RX10 132 (999) ∈ gW := gW_of 1170 (by decide +kernel) (by decide +kernel)
theorem kl_X10_134 : Cond.constantLong RX10 134 (8) ∈ gW := gW_of 1179 (by decide +kernel) (by decide +kernel)
theorem kl_X10_139 : Cond.constantLong RX10 139 (255) ∈ gW := gW_of 1184 (by decide +kernel) (by decide +kernel)
theorem kl_X10_141 : Cond.constantLong RX10 141 (97) ∈ gW := gW_of 1212 (by decide +kernel) (by decide +kernel)
theorem kl_X10_143 : Cond.constantLong RX10 143 (122) ∈ gW := gW_of 1213 (by decide +kernel) (by decide +kernel)
theorem kl_X10_145 : Cond.constantLong RX10 145 (48) ∈ gW := gW_of 1217 (by decide +kernel) (by decide +kernel)
theorem kl_X10_147 : Cond.constantLong RX10 147 (57) ∈ gW := gW_of 1218 (by decide +kernel) (by decide +kernel)
theorem kl_X10_114 : Cond.constantLong RX10 114 (119) ∈ gW := gW_of 1235 (by decide +kernel) (by decide +kernel)
theorem kl_X10_209 : Cond.constantLong RX10 209 (10) ∈ gW := gW_of 1248 (by decide +kernel) (by decide +kernel)
theorem kl_X10_218 : Cond.constantLong RX10 218 (5) ∈ gW := gW_of 1265 (by decide +kernel) (by decide +kernel)
theorem kl_X10_61 : Cond.constantLong RX10 61 (2) ∈ gW := gW_of 1401 (by decide +kernel) (by decide +kernel)
theorem kl_X10_302 : Cond.constantLong RX10 302 (20) ∈ gW := gW_of 1461 (by decide +kernel) (by decide +kernel)
theorem kl_X10_304 : Cond.constantLong RX10 304 (120) ∈ gW := gW_of 1462 (by decide +kernel) (by decide +kernel)
theorem kl_X10_306 : Cond.constantLong RX10 306 (12) ∈ gW := gW_of 1467 (by decide +kernel) (by decide +kernel)
theorem kl_X10_316 : Cond.constantLong RX10 316 (59) ∈ gW := gW_of 1486 (by decide +kernel) (by decide +kernel)
theorem kl_X10_328 : Cond.constantLong RX10 328 (7) ∈ gW := gW_of 1527 (by decide +kernel) (by decide +kernel)
theorem kl_X10_335 : Cond.constantLong RX10 335 (569) ∈ gW := gW_of 1536 (by decide +kernel) (by decide +kernel)
theorem kl_X10_333 : Cond.constantLong RX10 333 (31) ∈ gW := gW_of 1537 (by decide +kernel) (by decide +kernel)
theorem kl_L_40 : Cond.constantLong RL 40 (4294967295) ∈ gW := gW_of 1542 (by decide +kernel) (by decide +kernel)
theorem kq_L_7 : Cond.classLink RL 7 RX9 ∈ gW := gW_of 113 (by decide +kernel) (by decide +kernel)
theorem kq_X9_7 : Cond.classLink RX9 7 RX8 ∈ gW := gW_of 121 (by decide +kernel) (by decide +kernel)
theorem kq_X8_9 : Cond.classLink RX8 9 RX3 ∈ gW := gW_of 127 (by decide +kernel) (by decide +kernel)
theorem kq_X3_9 : Cond.classLink RX3 9 RX5 ∈ gW := gW_of 133 (by decide +kernel) (by decide +kernel)
theorem kq_X5_24 : Cond.classLink RX5 24 "[[I" ∈ gW := gW_of 139 (by decide +kernel) (by decide +kernel)
theorem kq_X3_18 : Cond.classLink RX3 18 RX7 ∈ gW := gW_of 235 (by decide +kernel) (by decide +kernel)
theorem kq_X3_25 : Cond.classLink RX3 25 RX6 ∈ gW := gW_of 257 (by decide +kernel) (by decide +kernel)
theorem kq_X3_44 : Cond.classLink RX3 44 "[[I" ∈ gW := gW_of 259 (by decide +kernel) (by decide +kernel)
theorem kq_X8_23 : Cond.classLink RX8 23 RX1 ∈ gW := gW_of 335 (by decide +kernel) (by decide +kernel)
theorem kq_X1_9 : Cond.classLink RX1 9 RX0 ∈ gW := gW_of 341 (by decide +kernel) (by decide +kernel)
theorem kq_X8_30 : Cond.classLink RX8 30 "[[I" ∈ gW := gW_of 373 (by decide +kernel) (by decide +kernel)
theorem kq_X8_35 : Cond.classLink RX8 35 RX0 ∈ gW := gW_of 374 (by decide +kernel) (by decide +kernel)
theorem kq_X9_28 : Cond.classLink RX9 28 RX5 ∈ gW := gW_of 417 (by decide +kernel) (by decide +kernel)
theorem kq_X9_38 : Cond.classLink RX9 38 RX2 ∈ gW := gW_of 419 (by decide +kernel) (by decide +kernel)
theorem kq_X2_9 : Cond.classLink RX2 9 RX0 ∈ gW := gW_of 425 (by decide +kernel) (by decide +kernel)
theorem kq_X9_45 : Cond.classLink RX9 45 RX4 ∈ gW := gW_of 451 (by decide +kernel) (by decide +kernel)
theorem kq_X9_52 : Cond.classLink RX9 52 RX0 ∈ gW := gW_of 464 (by decide +kernel) (by decide +kernel)
theorem kq_L_10 : Cond.classLink RL 10 RX10 ∈ gW := gW_of 1048 (by decide +kernel) (by decide +kernel)
theorem ki_X9_init : Cond.instanceMethod yX9_init ∈ gW := gW_of 116 (by decide +kernel) (by decide +kernel)
theorem ki_X8_init : Cond.instanceMethod yX8_init ∈ gW := gW_of 124 (by decide +kernel) (by decide +kernel)
theorem ki_X3_init : Cond.instanceMethod yX3_init ∈ gW := gW_of 130 (by decide +kernel) (by decide +kernel)
theorem ki_X5_init : Cond.instanceMethod yX5_init ∈ gW := gW_of 136 (by decide +kernel) (by decide +kernel)
theorem ki_X7_init : Cond.instanceMethod yX7_init ∈ gW := gW_of 238 (by decide +kernel) (by decide +kernel)
theorem ki_X6_init : Cond.instanceMethod yX6_init ∈ gW := gW_of 262 (by decide +kernel) (by decide +kernel)
theorem ki_X1_init : Cond.instanceMethod yX1_init ∈ gW := gW_of 338 (by decide +kernel) (by decide +kernel)
theorem ki_X0_init : Cond.instanceMethod yX0_init ∈ gW := gW_of 345 (by decide +kernel) (by decide +kernel)
theorem ki_X2_init : Cond.instanceMethod yX2_init ∈ gW := gW_of 422 (by decide +kernel) (by decide +kernel)
theorem ki_X0_become : Cond.instanceMethod yX0_become ∈ gW := gW_of 428 (by decide +kernel) (by decide +kernel)
theorem ki_X4_init : Cond.instanceMethod yX4_init ∈ gW := gW_of 454 (by decide +kernel) (by decide +kernel)
theorem ki_X9_place : Cond.instanceMethod yX9_place ∈ gW := gW_of 505 (by decide +kernel) (by decide +kernel)
theorem ki_X9_bad : Cond.instanceMethod yX9_bad ∈ gW := gW_of 513 (by decide +kernel) (by decide +kernel)
theorem ki_X9_full : Cond.instanceMethod yX9_full ∈ gW := gW_of 517 (by decide +kernel) (by decide +kernel)
theorem ki_X9_changed : Cond.instanceMethod yX9_changed ∈ gW := gW_of 521 (by decide +kernel) (by decide +kernel)
theorem ki_X9_rain : Cond.instanceMethod yX9_rain ∈ gW := gW_of 524 (by decide +kernel) (by decide +kernel)
theorem ki_X9_exchange : Cond.instanceMethod yX9_exchange ∈ gW := gW_of 529 (by decide +kernel) (by decide +kernel)
theorem ki_X9_lot : Cond.instanceMethod yX9_lot ∈ gW := gW_of 532 (by decide +kernel) (by decide +kernel)
theorem ki_X9_put : Cond.instanceMethod yX9_put ∈ gW := gW_of 536 (by decide +kernel) (by decide +kernel)
theorem ki_X9_kind : Cond.instanceMethod yX9_kind ∈ gW := gW_of 540 (by decide +kernel) (by decide +kernel)
theorem ki_X9_prior : Cond.instanceMethod yX9_prior ∈ gW := gW_of 547 (by decide +kernel) (by decide +kernel)
theorem ki_X9_type : Cond.instanceMethod yX9_type ∈ gW := gW_of 554 (by decide +kernel) (by decide +kernel)
theorem ki_X9_clear : Cond.instanceMethod yX9_clear ∈ gW := gW_of 558 (by decide +kernel) (by decide +kernel)
theorem ki_X9_fault : Cond.instanceMethod yX9_fault ∈ gW := gW_of 562 (by decide +kernel) (by decide +kernel)
theorem ki_X3_refresh : Cond.instanceMethod yX3_refresh ∈ gW := gW_of 566 (by decide +kernel) (by decide +kernel)
theorem ki_X7_read : Cond.instanceMethod yX7_read ∈ gW := gW_of 570 (by decide +kernel) (by decide +kernel)
theorem ki_X7_readLetters : Cond.instanceMethod yX7_readLetters ∈ gW := gW_of 578 (by decide +kernel) (by decide +kernel)
theorem ki_X7_keep : Cond.instanceMethod yX7_keep ∈ gW := gW_of 590 (by decide +kernel) (by decide +kernel)
theorem ki_X7_readFigures : Cond.instanceMethod yX7_readFigures ∈ gW := gW_of 597 (by decide +kernel) (by decide +kernel)
theorem ki_X6_read : Cond.instanceMethod yX6_read ∈ gW := gW_of 600 (by decide +kernel) (by decide +kernel)
theorem ki_X7_tokenAt : Cond.instanceMethod yX7_tokenAt ∈ gW := gW_of 605 (by decide +kernel) (by decide +kernel)
theorem ki_X6_readItem : Cond.instanceMethod yX6_readItem ∈ gW := gW_of 610 (by decide +kernel) (by decide +kernel)
theorem ki_X6_mayBegin : Cond.instanceMethod yX6_mayBegin ∈ gW := gW_of 614 (by decide +kernel) (by decide +kernel)
theorem ki_X7_valueAt : Cond.instanceMethod yX7_valueAt ∈ gW := gW_of 620 (by decide +kernel) (by decide +kernel)
theorem ki_X6_take : Cond.instanceMethod yX6_take ∈ gW := gW_of 625 (by decide +kernel) (by decide +kernel)
theorem ki_X6_stayUntil : Cond.instanceMethod yX6_stayUntil ∈ gW := gW_of 629 (by decide +kernel) (by decide +kernel)
theorem ki_X7_startAt : Cond.instanceMethod yX7_startAt ∈ gW := gW_of 632 (by decide +kernel) (by decide +kernel)
theorem ki_X5_feedsIn : Cond.instanceMethod yX5_feedsIn ∈ gW := gW_of 636 (by decide +kernel) (by decide +kernel)
theorem ki_X3_findTurns : Cond.instanceMethod yX3_findTurns ∈ gW := gW_of 641 (by decide +kernel) (by decide +kernel)
theorem ki_X3_someoneMoves : Cond.instanceMethod yX3_someoneMoves ∈ gW := gW_of 645 (by decide +kernel) (by decide +kernel)
theorem ki_X9_sign : Cond.instanceMethod yX9_sign ∈ gW := gW_of 648 (by decide +kernel) (by decide +kernel)
theorem ki_X9_noPlace : Cond.instanceMethod yX9_noPlace ∈ gW := gW_of 653 (by decide +kernel) (by decide +kernel)
theorem ki_X5_hasSign : Cond.instanceMethod yX5_hasSign ∈ gW := gW_of 656 (by decide +kernel) (by decide +kernel)
theorem ki_X9_post : Cond.instanceMethod yX9_post ∈ gW := gW_of 660 (by decide +kernel) (by decide +kernel)
theorem ki_X9_teller : Cond.instanceMethod yX9_teller ∈ gW := gW_of 664 (by decide +kernel) (by decide +kernel)
theorem ki_X9_noLot : Cond.instanceMethod yX9_noLot ∈ gW := gW_of 669 (by decide +kernel) (by decide +kernel)
theorem ki_X9_noWhere : Cond.instanceMethod yX9_noWhere ∈ gW := gW_of 676 (by decide +kernel) (by decide +kernel)
theorem ki_X9_at : Cond.instanceMethod yX9_at ∈ gW := gW_of 679 (by decide +kernel) (by decide +kernel)
theorem ki_X9_hasFault : Cond.instanceMethod yX9_hasFault ∈ gW := gW_of 684 (by decide +kernel) (by decide +kernel)
theorem ki_X9_no : Cond.instanceMethod yX9_no ∈ gW := gW_of 688 (by decide +kernel) (by decide +kernel)
theorem ki_X9_must : Cond.instanceMethod yX9_must ∈ gW := gW_of 691 (by decide +kernel) (by decide +kernel)
theorem ki_X3_allLive : Cond.instanceMethod yX3_allLive ∈ gW := gW_of 695 (by decide +kernel) (by decide +kernel)
theorem ki_X3_left : Cond.instanceMethod yX3_left ∈ gW := gW_of 700 (by decide +kernel) (by decide +kernel)
theorem ki_X9_hunger : Cond.instanceMethod yX9_hunger ∈ gW := gW_of 707 (by decide +kernel) (by decide +kernel)
theorem ki_X3_hungerYears : Cond.instanceMethod yX3_hungerYears ∈ gW := gW_of 711 (by decide +kernel) (by decide +kernel)
theorem ki_X3_countHeads : Cond.instanceMethod yX3_countHeads ∈ gW := gW_of 716 (by decide +kernel) (by decide +kernel)
theorem ki_X9_odds : Cond.instanceMethod yX9_odds ∈ gW := gW_of 719 (by decide +kernel) (by decide +kernel)
theorem ki_X9_noWorlds : Cond.instanceMethod yX9_noWorlds ∈ gW := gW_of 724 (by decide +kernel) (by decide +kernel)
theorem ki_X8_refresh : Cond.instanceMethod yX8_refresh ∈ gW := gW_of 727 (by decide +kernel) (by decide +kernel)
theorem ki_X8_forgetSums : Cond.instanceMethod yX8_forgetSums ∈ gW := gW_of 732 (by decide +kernel) (by decide +kernel)
theorem ki_X8_shareOut : Cond.instanceMethod yX8_shareOut ∈ gW := gW_of 737 (by decide +kernel) (by decide +kernel)
theorem ki_X8_tellersShare : Cond.instanceMethod yX8_tellersShare ∈ gW := gW_of 741 (by decide +kernel) (by decide +kernel)
theorem ki_X5_isHeard : Cond.instanceMethod yX5_isHeard ∈ gW := gW_of 744 (by decide +kernel) (by decide +kernel)
theorem ki_X8_postShare : Cond.instanceMethod yX8_postShare ∈ gW := gW_of 752 (by decide +kernel) (by decide +kernel)
theorem ki_X1_refresh : Cond.instanceMethod yX1_refresh ∈ gW := gW_of 755 (by decide +kernel) (by decide +kernel)
theorem ki_X1_weighSign : Cond.instanceMethod yX1_weighSign ∈ gW := gW_of 760 (by decide +kernel) (by decide +kernel)
theorem ki_X1_carry : Cond.instanceMethod yX1_carry ∈ gW := gW_of 764 (by decide +kernel) (by decide +kernel)
theorem ki_X1_of : Cond.instanceMethod yX1_of ∈ gW := gW_of 768 (by decide +kernel) (by decide +kernel)
theorem ki_X0_copy : Cond.instanceMethod yX0_copy ∈ gW := gW_of 772 (by decide +kernel) (by decide +kernel)
theorem ki_X0_timesPower : Cond.instanceMethod yX0_timesPower ∈ gW := gW_of 780 (by decide +kernel) (by decide +kernel)
theorem ki_X0_times : Cond.instanceMethod yX0_times ∈ gW := gW_of 784 (by decide +kernel) (by decide +kernel)
theorem ki_X0_plus : Cond.instanceMethod yX0_plus ∈ gW := gW_of 789 (by decide +kernel) (by decide +kernel)
theorem ki_X0_growTo : Cond.instanceMethod yX0_growTo ∈ gW := gW_of 794 (by decide +kernel) (by decide +kernel)
theorem ki_X0_trim : Cond.instanceMethod yX0_trim ∈ gW := gW_of 799 (by decide +kernel) (by decide +kernel)
theorem ki_X3_mostHunger : Cond.instanceMethod yX3_mostHunger ∈ gW := gW_of 802 (by decide +kernel) (by decide +kernel)
theorem ki_X3_choose : Cond.instanceMethod yX3_choose ∈ gW := gW_of 806 (by decide +kernel) (by decide +kernel)
theorem ki_X8_weigh : Cond.instanceMethod yX8_weigh ∈ gW := gW_of 811 (by decide +kernel) (by decide +kernel)
theorem ki_X0_isZero : Cond.instanceMethod yX0_isZero ∈ gW := gW_of 815 (by decide +kernel) (by decide +kernel)
theorem ki_X0_product : Cond.instanceMethod yX0_product ∈ gW := gW_of 821 (by decide +kernel) (by decide +kernel)
theorem ki_X8_addUp : Cond.instanceMethod yX8_addUp ∈ gW := gW_of 828 (by decide +kernel) (by decide +kernel)
theorem ki_X8_livedBy : Cond.instanceMethod yX8_livedBy ∈ gW := gW_of 832 (by decide +kernel) (by decide +kernel)
theorem ki_X3_doAllLive : Cond.instanceMethod yX3_doAllLive ∈ gW := gW_of 836 (by decide +kernel) (by decide +kernel)
theorem ki_X9_answerShare : Cond.instanceMethod yX9_answerShare ∈ gW := gW_of 843 (by decide +kernel) (by decide +kernel)
theorem ki_X2_become : Cond.instanceMethod yX2_become ∈ gW := gW_of 846 (by decide +kernel) (by decide +kernel)
theorem ki_X2_findDivisor : Cond.instanceMethod yX2_findDivisor ∈ gW := gW_of 852 (by decide +kernel) (by decide +kernel)
theorem ki_X0_divide : Cond.instanceMethod yX0_divide ∈ gW := gW_of 857 (by decide +kernel) (by decide +kernel)
theorem ki_X0_isBelow : Cond.instanceMethod yX0_isBelow ∈ gW := gW_of 864 (by decide +kernel) (by decide +kernel)
theorem ki_X0_digit : Cond.instanceMethod yX0_digit ∈ gW := gW_of 868 (by decide +kernel) (by decide +kernel)
theorem ki_X0_topTwo : Cond.instanceMethod yX0_topTwo ∈ gW := gW_of 873 (by decide +kernel) (by decide +kernel)
theorem ki_X0_takeAway : Cond.instanceMethod yX0_takeAway ∈ gW := gW_of 880 (by decide +kernel) (by decide +kernel)
theorem ki_X0_raise : Cond.instanceMethod yX0_raise ∈ gW := gW_of 884 (by decide +kernel) (by decide +kernel)
theorem ki_X9_all : Cond.instanceMethod yX9_all ∈ gW := gW_of 887 (by decide +kernel) (by decide +kernel)
theorem ki_X9_where : Cond.instanceMethod yX9_where ∈ gW := gW_of 891 (by decide +kernel) (by decide +kernel)
theorem ki_X8_gatherWhere : Cond.instanceMethod yX8_gatherWhere ∈ gW := gW_of 895 (by decide +kernel) (by decide +kernel)
theorem ki_X9_so : Cond.instanceMethod yX9_so ∈ gW := gW_of 899 (by decide +kernel) (by decide +kernel)
theorem ki_X9_lost : Cond.instanceMethod yX9_lost ∈ gW := gW_of 903 (by decide +kernel) (by decide +kernel)
theorem ki_X8_lostOf : Cond.instanceMethod yX8_lostOf ∈ gW := gW_of 907 (by decide +kernel) (by decide +kernel)
theorem ki_X9_next : Cond.instanceMethod yX9_next ∈ gW := gW_of 911 (by decide +kernel) (by decide +kernel)
theorem ki_X8_digNext : Cond.instanceMethod yX8_digNext ∈ gW := gW_of 915 (by decide +kernel) (by decide +kernel)
theorem ki_X8_differenceAt : Cond.instanceMethod yX8_differenceAt ∈ gW := gW_of 921 (by decide +kernel) (by decide +kernel)
theorem ki_X9_fed : Cond.instanceMethod yX9_fed ∈ gW := gW_of 927 (by decide +kernel) (by decide +kernel)
theorem ki_X9_dry : Cond.instanceMethod yX9_dry ∈ gW := gW_of 932 (by decide +kernel) (by decide +kernel)
theorem ki_X9_worse : Cond.instanceMethod yX9_worse ∈ gW := gW_of 937 (by decide +kernel) (by decide +kernel)
theorem ki_X9_many : Cond.instanceMethod yX9_many ∈ gW := gW_of 940 (by decide +kernel) (by decide +kernel)
theorem ki_X9_stone : Cond.instanceMethod yX9_stone ∈ gW := gW_of 945 (by decide +kernel) (by decide +kernel)
theorem ki_X9_days : Cond.instanceMethod yX9_days ∈ gW := gW_of 953 (by decide +kernel) (by decide +kernel)
theorem ki_X9_storm : Cond.instanceMethod yX9_storm ∈ gW := gW_of 957 (by decide +kernel) (by decide +kernel)
theorem ki_X9_sails : Cond.instanceMethod yX9_sails ∈ gW := gW_of 961 (by decide +kernel) (by decide +kernel)
theorem ki_X4_firstDayAt : Cond.instanceMethod yX4_firstDayAt ∈ gW := gW_of 965 (by decide +kernel) (by decide +kernel)
theorem ki_X4_soonest : Cond.instanceMethod yX4_soonest ∈ gW := gW_of 971 (by decide +kernel) (by decide +kernel)
theorem ki_X4_sailOnFrom : Cond.instanceMethod yX4_sailOnFrom ∈ gW := gW_of 975 (by decide +kernel) (by decide +kernel)
theorem ki_X9_back : Cond.instanceMethod yX9_back ∈ gW := gW_of 981 (by decide +kernel) (by decide +kernel)
theorem ki_X9_part : Cond.instanceMethod yX9_part ∈ gW := gW_of 985 (by decide +kernel) (by decide +kernel)
theorem ki_X9_partOf : Cond.instanceMethod yX9_partOf ∈ gW := gW_of 990 (by decide +kernel) (by decide +kernel)
theorem ki_X9_limb : Cond.instanceMethod yX9_limb ∈ gW := gW_of 993 (by decide +kernel) (by decide +kernel)
theorem ki_X9_image : Cond.instanceMethod yX9_image ∈ gW := gW_of 998 (by decide +kernel) (by decide +kernel)
theorem ki_X5_copy : Cond.instanceMethod yX5_copy ∈ gW := gW_of 1002 (by decide +kernel) (by decide +kernel)
theorem ki_X9_from : Cond.instanceMethod yX9_from ∈ gW := gW_of 1014 (by decide +kernel) (by decide +kernel)
theorem ki_X9_status : Cond.instanceMethod yX9_status ∈ gW := gW_of 1018 (by decide +kernel) (by decide +kernel)
theorem ki_X9_count : Cond.instanceMethod yX9_count ∈ gW := gW_of 1022 (by decide +kernel) (by decide +kernel)
theorem ki_X5_countOf : Cond.instanceMethod yX5_countOf ∈ gW := gW_of 1026 (by decide +kernel) (by decide +kernel)
theorem ki_X9_digest : Cond.instanceMethod yX9_digest ∈ gW := gW_of 1030 (by decide +kernel) (by decide +kernel)
theorem ki_X5_digestOnto : Cond.instanceMethod yX5_digestOnto ∈ gW := gW_of 1035 (by decide +kernel) (by decide +kernel)
theorem ki_X10_init : Cond.instanceMethod yX10_init ∈ gW := gW_of 1051 (by decide +kernel) (by decide +kernel)
theorem ki_X10_set : Cond.instanceMethod yX10_set ∈ gW := gW_of 1056 (by decide +kernel) (by decide +kernel)
theorem ki_X10_place : Cond.instanceMethod yX10_place ∈ gW := gW_of 1125 (by decide +kernel) (by decide +kernel)
theorem ki_X10_bad : Cond.instanceMethod yX10_bad ∈ gW := gW_of 1134 (by decide +kernel) (by decide +kernel)
theorem ki_X10_places : Cond.instanceMethod yX10_places ∈ gW := gW_of 1138 (by decide +kernel) (by decide +kernel)
theorem ki_X10_full : Cond.instanceMethod yX10_full ∈ gW := gW_of 1142 (by decide +kernel) (by decide +kernel)
theorem ki_X10_rain : Cond.instanceMethod yX10_rain ∈ gW := gW_of 1145 (by decide +kernel) (by decide +kernel)
theorem ki_X10_lot : Cond.instanceMethod yX10_lot ∈ gW := gW_of 1150 (by decide +kernel) (by decide +kernel)
theorem ki_X10_lots : Cond.instanceMethod yX10_lots ∈ gW := gW_of 1156 (by decide +kernel) (by decide +kernel)
theorem ki_X10_put : Cond.instanceMethod yX10_put ∈ gW := gW_of 1159 (by decide +kernel) (by decide +kernel)
theorem ki_X10_kind : Cond.instanceMethod yX10_kind ∈ gW := gW_of 1163 (by decide +kernel) (by decide +kernel)
theorem ki_X10_prior : Cond.instanceMethod yX10_prior ∈ gW := gW_of 1172 (by decide +kernel) (by decide +kernel)
theorem ki_X10_type : Cond.instanceMethod yX10_type ∈ gW := gW_of 1176 (by decide +kernel) (by decide +kernel)
theorem ki_X10_textLong : Cond.instanceMethod yX10_textLong ∈ gW := gW_of 1182 (by decide +kernel) (by decide +kernel)
theorem ki_X10_clear : Cond.instanceMethod yX10_clear ∈ gW := gW_of 1186 (by decide +kernel) (by decide +kernel)
theorem ki_X10_fault : Cond.instanceMethod yX10_fault ∈ gW := gW_of 1190 (by decide +kernel) (by decide +kernel)
theorem ki_X10_readsStory : Cond.instanceMethod yX10_readsStory ∈ gW := gW_of 1195 (by decide +kernel) (by decide +kernel)
theorem ki_X10_layFrom : Cond.instanceMethod yX10_layFrom ∈ gW := gW_of 1199 (by decide +kernel) (by decide +kernel)
theorem ki_X10_look : Cond.instanceMethod yX10_look ∈ gW := gW_of 1203 (by decide +kernel) (by decide +kernel)
theorem ki_X10_byteAt : Cond.instanceMethod yX10_byteAt ∈ gW := gW_of 1207 (by decide +kernel) (by decide +kernel)
theorem ki_X10_readItem : Cond.instanceMethod yX10_readItem ∈ gW := gW_of 1221 (by decide +kernel) (by decide +kernel)
theorem ki_X10_isWord : Cond.instanceMethod yX10_isWord ∈ gW := gW_of 1225 (by decide +kernel) (by decide +kernel)
theorem ki_X10_goOn : Cond.instanceMethod yX10_goOn ∈ gW := gW_of 1229 (by decide +kernel) (by decide +kernel)
theorem ki_X10_takesMonth : Cond.instanceMethod yX10_takesMonth ∈ gW := gW_of 1233 (by decide +kernel) (by decide +kernel)
theorem ki_X10_isPlace : Cond.instanceMethod yX10_isPlace ∈ gW := gW_of 1238 (by decide +kernel) (by decide +kernel)
theorem ki_X10_stops : Cond.instanceMethod yX10_stops ∈ gW := gW_of 1242 (by decide +kernel) (by decide +kernel)
theorem ki_X10_sign : Cond.instanceMethod yX10_sign ∈ gW := gW_of 1245 (by decide +kernel) (by decide +kernel)
theorem ki_X10_isSigned : Cond.instanceMethod yX10_isSigned ∈ gW := gW_of 1251 (by decide +kernel) (by decide +kernel)
theorem ki_X10_signs : Cond.instanceMethod yX10_signs ∈ gW := gW_of 1255 (by decide +kernel) (by decide +kernel)
theorem ki_X10_post : Cond.instanceMethod yX10_post ∈ gW := gW_of 1258 (by decide +kernel) (by decide +kernel)
theorem ki_X10_teller : Cond.instanceMethod yX10_teller ∈ gW := gW_of 1262 (by decide +kernel) (by decide +kernel)
theorem ki_X10_isLot : Cond.instanceMethod yX10_isLot ∈ gW := gW_of 1268 (by decide +kernel) (by decide +kernel)
theorem ki_X10_isWhere : Cond.instanceMethod yX10_isWhere ∈ gW := gW_of 1275 (by decide +kernel) (by decide +kernel)
theorem ki_X10_tellers : Cond.instanceMethod yX10_tellers ∈ gW := gW_of 1279 (by decide +kernel) (by decide +kernel)
theorem ki_X10_at : Cond.instanceMethod yX10_at ∈ gW := gW_of 1282 (by decide +kernel) (by decide +kernel)
theorem ki_X10_laysOne : Cond.instanceMethod yX10_laysOne ∈ gW := gW_of 1287 (by decide +kernel) (by decide +kernel)
theorem ki_X10_readAll : Cond.instanceMethod yX10_readAll ∈ gW := gW_of 1291 (by decide +kernel) (by decide +kernel)
theorem ki_X10_no : Cond.instanceMethod yX10_no ∈ gW := gW_of 1295 (by decide +kernel) (by decide +kernel)
theorem ki_X10_must : Cond.instanceMethod yX10_must ∈ gW := gW_of 1298 (by decide +kernel) (by decide +kernel)
theorem ki_X10_leftOf : Cond.instanceMethod yX10_leftOf ∈ gW := gW_of 1303 (by decide +kernel) (by decide +kernel)
theorem ki_X10_whereOf : Cond.instanceMethod yX10_whereOf ∈ gW := gW_of 1307 (by decide +kernel) (by decide +kernel)
theorem ki_X10_hunger : Cond.instanceMethod yX10_hunger ∈ gW := gW_of 1310 (by decide +kernel) (by decide +kernel)
theorem ki_X10_hungerOf : Cond.instanceMethod yX10_hungerOf ∈ gW := gW_of 1315 (by decide +kernel) (by decide +kernel)
theorem ki_X10_isHungry : Cond.instanceMethod yX10_isHungry ∈ gW := gW_of 1319 (by decide +kernel) (by decide +kernel)
theorem ki_X10_fedOf : Cond.instanceMethod yX10_fedOf ∈ gW := gW_of 1323 (by decide +kernel) (by decide +kernel)
theorem ki_X10_odds : Cond.instanceMethod yX10_odds ∈ gW := gW_of 1326 (by decide +kernel) (by decide +kernel)
theorem ki_X10_tellsShare : Cond.instanceMethod yX10_tellsShare ∈ gW := gW_of 1331 (by decide +kernel) (by decide +kernel)
theorem ki_X10_sumsUp : Cond.instanceMethod yX10_sumsUp ∈ gW := gW_of 1335 (by decide +kernel) (by decide +kernel)
theorem ki_X10_worlds : Cond.instanceMethod yX10_worlds ∈ gW := gW_of 1339 (by decide +kernel) (by decide +kernel)
theorem ki_X10_laysWorld : Cond.instanceMethod yX10_laysWorld ∈ gW := gW_of 1343 (by decide +kernel) (by decide +kernel)
theorem ki_X10_weigh : Cond.instanceMethod yX10_weigh ∈ gW := gW_of 1347 (by decide +kernel) (by decide +kernel)
theorem ki_X10_times : Cond.instanceMethod yX10_times ∈ gW := gW_of 1351 (by decide +kernel) (by decide +kernel)
theorem ki_X10_trim : Cond.instanceMethod yX10_trim ∈ gW := gW_of 1355 (by decide +kernel) (by decide +kernel)
theorem ki_X10_timesAll : Cond.instanceMethod yX10_timesAll ∈ gW := gW_of 1359 (by decide +kernel) (by decide +kernel)
theorem ki_X10_isHeard : Cond.instanceMethod yX10_isHeard ∈ gW := gW_of 1363 (by decide +kernel) (by decide +kernel)
theorem ki_X10_isSaidSo : Cond.instanceMethod yX10_isSaidSo ∈ gW := gW_of 1367 (by decide +kernel) (by decide +kernel)
theorem ki_X10_findSign : Cond.instanceMethod yX10_findSign ∈ gW := gW_of 1371 (by decide +kernel) (by decide +kernel)
theorem ki_X10_add : Cond.instanceMethod yX10_add ∈ gW := gW_of 1375 (by decide +kernel) (by decide +kernel)
theorem ki_X10_product : Cond.instanceMethod yX10_product ∈ gW := gW_of 1379 (by decide +kernel) (by decide +kernel)
theorem ki_X10_copy : Cond.instanceMethod yX10_copy ∈ gW := gW_of 1383 (by decide +kernel) (by decide +kernel)
theorem ki_X10_holds : Cond.instanceMethod yX10_holds ∈ gW := gW_of 1387 (by decide +kernel) (by decide +kernel)
theorem ki_X10_tell : Cond.instanceMethod yX10_tell ∈ gW := gW_of 1391 (by decide +kernel) (by decide +kernel)
theorem ki_X10_findDivisor : Cond.instanceMethod yX10_findDivisor ∈ gW := gW_of 1395 (by decide +kernel) (by decide +kernel)
theorem ki_X10_isEven : Cond.instanceMethod yX10_isEven ∈ gW := gW_of 1399 (by decide +kernel) (by decide +kernel)
theorem ki_X10_halve : Cond.instanceMethod yX10_halve ∈ gW := gW_of 1404 (by decide +kernel) (by decide +kernel)
theorem ki_X10_compare : Cond.instanceMethod yX10_compare ∈ gW := gW_of 1408 (by decide +kernel) (by decide +kernel)
theorem ki_X10_take : Cond.instanceMethod yX10_take ∈ gW := gW_of 1412 (by decide +kernel) (by decide +kernel)
theorem ki_X10_divide : Cond.instanceMethod yX10_divide ∈ gW := gW_of 1416 (by decide +kernel) (by decide +kernel)
theorem ki_X10_addOne : Cond.instanceMethod yX10_addOne ∈ gW := gW_of 1420 (by decide +kernel) (by decide +kernel)
theorem ki_X10_all : Cond.instanceMethod yX10_all ∈ gW := gW_of 1423 (by decide +kernel) (by decide +kernel)
theorem ki_X10_where : Cond.instanceMethod yX10_where ∈ gW := gW_of 1427 (by decide +kernel) (by decide +kernel)
theorem ki_X10_so : Cond.instanceMethod yX10_so ∈ gW := gW_of 1431 (by decide +kernel) (by decide +kernel)
theorem ki_X10_lost : Cond.instanceMethod yX10_lost ∈ gW := gW_of 1435 (by decide +kernel) (by decide +kernel)
theorem ki_X10_next : Cond.instanceMethod yX10_next ∈ gW := gW_of 1439 (by decide +kernel) (by decide +kernel)
theorem ki_X10_differs : Cond.instanceMethod yX10_differs ∈ gW := gW_of 1444 (by decide +kernel) (by decide +kernel)
theorem ki_X10_fed : Cond.instanceMethod yX10_fed ∈ gW := gW_of 1447 (by decide +kernel) (by decide +kernel)
theorem ki_X10_dry : Cond.instanceMethod yX10_dry ∈ gW := gW_of 1454 (by decide +kernel) (by decide +kernel)
theorem ki_X10_many : Cond.instanceMethod yX10_many ∈ gW := gW_of 1458 (by decide +kernel) (by decide +kernel)
theorem ki_X10_stone : Cond.instanceMethod yX10_stone ∈ gW := gW_of 1464 (by decide +kernel) (by decide +kernel)
theorem ki_X10_tells : Cond.instanceMethod yX10_tells ∈ gW := gW_of 1473 (by decide +kernel) (by decide +kernel)
theorem ki_X10_days : Cond.instanceMethod yX10_days ∈ gW := gW_of 1476 (by decide +kernel) (by decide +kernel)
theorem ki_X10_storm : Cond.instanceMethod yX10_storm ∈ gW := gW_of 1480 (by decide +kernel) (by decide +kernel)
theorem ki_X10_sails : Cond.instanceMethod yX10_sails ∈ gW := gW_of 1488 (by decide +kernel) (by decide +kernel)
theorem ki_X10_sailsTo : Cond.instanceMethod yX10_sailsTo ∈ gW := gW_of 1493 (by decide +kernel) (by decide +kernel)
theorem ki_X10_dayBehind : Cond.instanceMethod yX10_dayBehind ∈ gW := gW_of 1497 (by decide +kernel) (by decide +kernel)
theorem ki_X10_back : Cond.instanceMethod yX10_back ∈ gW := gW_of 1500 (by decide +kernel) (by decide +kernel)
theorem ki_X10_part : Cond.instanceMethod yX10_part ∈ gW := gW_of 1504 (by decide +kernel) (by decide +kernel)
theorem ki_X10_limb : Cond.instanceMethod yX10_limb ∈ gW := gW_of 1508 (by decide +kernel) (by decide +kernel)
theorem ki_X10_image : Cond.instanceMethod yX10_image ∈ gW := gW_of 1512 (by decide +kernel) (by decide +kernel)
theorem ki_X10_from : Cond.instanceMethod yX10_from ∈ gW := gW_of 1516 (by decide +kernel) (by decide +kernel)
theorem ki_X10_status : Cond.instanceMethod yX10_status ∈ gW := gW_of 1520 (by decide +kernel) (by decide +kernel)
theorem ki_X10_count : Cond.instanceMethod yX10_count ∈ gW := gW_of 1524 (by decide +kernel) (by decide +kernel)
theorem ki_X10_counted : Cond.instanceMethod yX10_counted ∈ gW := gW_of 1530 (by decide +kernel) (by decide +kernel)
theorem ki_X10_digest : Cond.instanceMethod yX10_digest ∈ gW := gW_of 1533 (by decide +kernel) (by decide +kernel)
theorem ki_X10_sums : Cond.instanceMethod yX10_sums ∈ gW := gW_of 1540 (by decide +kernel) (by decide +kernel)
theorem kt_J7_fill_53178 : Cond.static yJ7_fill_53178 ∈ gW := gW_of 142 (by decide +kernel) (by decide +kernel)
theorem kt_J9_max_7cf53 : Cond.static yJ9_max_7cf53 ∈ gW := gW_of 349 (by decide +kernel) (by decide +kernel)
theorem kt_X9_outside : Cond.static yX9_outside ∈ gW := gW_of 509 (by decide +kernel) (by decide +kernel)
theorem kt_X9_noKind : Cond.static yX9_noKind ∈ gW := gW_of 544 (by decide +kernel) (by decide +kernel)
theorem kt_X9_noStory : Cond.static yX9_noStory ∈ gW := gW_of 551 (by decide +kernel) (by decide +kernel)
theorem kt_X7_isLetter : Cond.static yX7_isLetter ∈ gW := gW_of 574 (by decide +kernel) (by decide +kernel)
theorem kt_X7_wordOf : Cond.static yX7_wordOf ∈ gW := gW_of 581 (by decide +kernel) (by decide +kernel)
theorem kt_X7_isFigure : Cond.static yX7_isFigure ∈ gW := gW_of 593 (by decide +kernel) (by decide +kernel)
theorem kt_X6_isLeg : Cond.static yX6_isLeg ∈ gW := gW_of 617 (by decide +kernel) (by decide +kernel)
theorem kt_X9_noMonth : Cond.static yX9_noMonth ∈ gW := gW_of 672 (by decide +kernel) (by decide +kernel)
theorem kt_J9_min_7cf53 : Cond.static yJ9_min_7cf53 ∈ gW := gW_of 704 (by decide +kernel) (by decide +kernel)
theorem kt_X8_of10 : Cond.static yX8_of10 ∈ gW := gW_of 748 (by decide +kernel) (by decide +kernel)
theorem kt_J9_max_f86c9 : Cond.static yJ9_max_f86c9 ∈ gW := gW_of 876 (by decide +kernel) (by decide +kernel)
theorem kt_X9_rightLetters : Cond.static yX9_rightLetters ∈ gW := gW_of 949 (by decide +kernel) (by decide +kernel)
theorem kt_X4_endOfLeg : Cond.static yX4_endOfLeg ∈ gW := gW_of 978 (by decide +kernel) (by decide +kernel)
theorem kt_X5_copyRow : Cond.static yX5_copyRow ∈ gW := gW_of 1006 (by decide +kernel) (by decide +kernel)
theorem kt_X5_copyRows : Cond.static yX5_copyRows ∈ gW := gW_of 1011 (by decide +kernel) (by decide +kernel)
theorem kt_X9_digestRow : Cond.static yX9_digestRow ∈ gW := gW_of 1041 (by decide +kernel) (by decide +kernel)
theorem kt_X5_digestRows : Cond.static yX5_digestRows ∈ gW := gW_of 1045 (by decide +kernel) (by decide +kernel)
theorem kt_X10_in : Cond.static yX10_in ∈ gW := gW_of 1130 (by decide +kernel) (by decide +kernel)
theorem kt_X10_isFour : Cond.static yX10_isFour ∈ gW := gW_of 1167 (by decide +kernel) (by decide +kernel)
theorem kt_X10_isSmall : Cond.static yX10_isSmall ∈ gW := gW_of 1210 (by decide +kernel) (by decide +kernel)
theorem kt_X10_isFigure : Cond.static yX10_isFigure ∈ gW := gW_of 1215 (by decide +kernel) (by decide +kernel)
theorem kt_X10_isMonth : Cond.static yX10_isMonth ∈ gW := gW_of 1271 (by decide +kernel) (by decide +kernel)
theorem kt_X10_isYear : Cond.static yX10_isYear ∈ gW := gW_of 1451 (by decide +kernel) (by decide +kernel)
theorem kt_X10_power : Cond.static yX10_power ∈ gW := gW_of 1469 (by decide +kernel) (by decide +kernel)
theorem kt_X10_isDay : Cond.static yX10_isDay ∈ gW := gW_of 1484 (by decide +kernel) (by decide +kernel)
theorem ks_X0_become : Cond.selects RX0 yX0_become yX0_become ∈ gW := gW_of 429 (by decide +kernel) (by decide +kernel)
theorem ks_X9_place : Cond.selects RX9 yX9_place yX9_place ∈ gW := gW_of 506 (by decide +kernel) (by decide +kernel)
theorem ks_X9_rain : Cond.selects RX9 yX9_rain yX9_rain ∈ gW := gW_of 525 (by decide +kernel) (by decide +kernel)
theorem ks_X9_lot : Cond.selects RX9 yX9_lot yX9_lot ∈ gW := gW_of 533 (by decide +kernel) (by decide +kernel)
theorem ks_X9_put : Cond.selects RX9 yX9_put yX9_put ∈ gW := gW_of 537 (by decide +kernel) (by decide +kernel)
theorem ks_X9_kind : Cond.selects RX9 yX9_kind yX9_kind ∈ gW := gW_of 541 (by decide +kernel) (by decide +kernel)
theorem ks_X9_prior : Cond.selects RX9 yX9_prior yX9_prior ∈ gW := gW_of 548 (by decide +kernel) (by decide +kernel)
theorem ks_X9_type : Cond.selects RX9 yX9_type yX9_type ∈ gW := gW_of 555 (by decide +kernel) (by decide +kernel)
theorem ks_X9_clear : Cond.selects RX9 yX9_clear yX9_clear ∈ gW := gW_of 559 (by decide +kernel) (by decide +kernel)
theorem ks_X9_fault : Cond.selects RX9 yX9_fault yX9_fault ∈ gW := gW_of 563 (by decide +kernel) (by decide +kernel)
theorem ks_X3_refresh : Cond.selects RX3 yX3_refresh yX3_refresh ∈ gW := gW_of 567 (by decide +kernel) (by decide +kernel)
theorem ks_X7_read : Cond.selects RX7 yX7_read yX7_read ∈ gW := gW_of 571 (by decide +kernel) (by decide +kernel)
theorem ks_X6_read : Cond.selects RX6 yX6_read yX6_read ∈ gW := gW_of 601 (by decide +kernel) (by decide +kernel)
theorem ks_X7_tokenAt : Cond.selects RX7 yX7_tokenAt yX7_tokenAt ∈ gW := gW_of 606 (by decide +kernel) (by decide +kernel)
theorem ks_X7_valueAt : Cond.selects RX7 yX7_valueAt yX7_valueAt ∈ gW := gW_of 621 (by decide +kernel) (by decide +kernel)
theorem ks_X7_startAt : Cond.selects RX7 yX7_startAt yX7_startAt ∈ gW := gW_of 633 (by decide +kernel) (by decide +kernel)
theorem ks_X5_feedsIn : Cond.selects RX5 yX5_feedsIn yX5_feedsIn ∈ gW := gW_of 637 (by decide +kernel) (by decide +kernel)
theorem ks_X9_sign : Cond.selects RX9 yX9_sign yX9_sign ∈ gW := gW_of 649 (by decide +kernel) (by decide +kernel)
theorem ks_X5_hasSign : Cond.selects RX5 yX5_hasSign yX5_hasSign ∈ gW := gW_of 657 (by decide +kernel) (by decide +kernel)
theorem ks_X9_post : Cond.selects RX9 yX9_post yX9_post ∈ gW := gW_of 661 (by decide +kernel) (by decide +kernel)
theorem ks_X9_teller : Cond.selects RX9 yX9_teller yX9_teller ∈ gW := gW_of 665 (by decide +kernel) (by decide +kernel)
theorem ks_X9_at : Cond.selects RX9 yX9_at yX9_at ∈ gW := gW_of 680 (by decide +kernel) (by decide +kernel)
theorem ks_X9_must : Cond.selects RX9 yX9_must yX9_must ∈ gW := gW_of 692 (by decide +kernel) (by decide +kernel)
theorem ks_X3_allLive : Cond.selects RX3 yX3_allLive yX3_allLive ∈ gW := gW_of 696 (by decide +kernel) (by decide +kernel)
theorem ks_X3_left : Cond.selects RX3 yX3_left yX3_left ∈ gW := gW_of 701 (by decide +kernel) (by decide +kernel)
theorem ks_X9_hunger : Cond.selects RX9 yX9_hunger yX9_hunger ∈ gW := gW_of 708 (by decide +kernel) (by decide +kernel)
theorem ks_X3_hungerYears : Cond.selects RX3 yX3_hungerYears yX3_hungerYears ∈ gW := gW_of 712 (by decide +kernel) (by decide +kernel)
theorem ks_X9_odds : Cond.selects RX9 yX9_odds yX9_odds ∈ gW := gW_of 720 (by decide +kernel) (by decide +kernel)
theorem ks_X8_refresh : Cond.selects RX8 yX8_refresh yX8_refresh ∈ gW := gW_of 728 (by decide +kernel) (by decide +kernel)
theorem ks_X5_isHeard : Cond.selects RX5 yX5_isHeard yX5_isHeard ∈ gW := gW_of 745 (by decide +kernel) (by decide +kernel)
theorem ks_X1_refresh : Cond.selects RX1 yX1_refresh yX1_refresh ∈ gW := gW_of 756 (by decide +kernel) (by decide +kernel)
theorem ks_X1_of : Cond.selects RX1 yX1_of yX1_of ∈ gW := gW_of 769 (by decide +kernel) (by decide +kernel)
theorem ks_X0_copy : Cond.selects RX0 yX0_copy yX0_copy ∈ gW := gW_of 773 (by decide +kernel) (by decide +kernel)
theorem ks_X0_timesPower : Cond.selects RX0 yX0_timesPower yX0_timesPower ∈ gW := gW_of 781 (by decide +kernel) (by decide +kernel)
theorem ks_X0_times : Cond.selects RX0 yX0_times yX0_times ∈ gW := gW_of 785 (by decide +kernel) (by decide +kernel)
theorem ks_X0_plus : Cond.selects RX0 yX0_plus yX0_plus ∈ gW := gW_of 790 (by decide +kernel) (by decide +kernel)
theorem ks_X3_mostHunger : Cond.selects RX3 yX3_mostHunger yX3_mostHunger ∈ gW := gW_of 803 (by decide +kernel) (by decide +kernel)
theorem ks_X3_choose : Cond.selects RX3 yX3_choose yX3_choose ∈ gW := gW_of 807 (by decide +kernel) (by decide +kernel)
theorem ks_X0_isZero : Cond.selects RX0 yX0_isZero yX0_isZero ∈ gW := gW_of 816 (by decide +kernel) (by decide +kernel)
theorem ks_X0_product : Cond.selects RX0 yX0_product yX0_product ∈ gW := gW_of 822 (by decide +kernel) (by decide +kernel)
theorem ks_X8_livedBy : Cond.selects RX8 yX8_livedBy yX8_livedBy ∈ gW := gW_of 833 (by decide +kernel) (by decide +kernel)
theorem ks_X3_doAllLive : Cond.selects RX3 yX3_doAllLive yX3_doAllLive ∈ gW := gW_of 837 (by decide +kernel) (by decide +kernel)
theorem ks_X2_become : Cond.selects RX2 yX2_become yX2_become ∈ gW := gW_of 847 (by decide +kernel) (by decide +kernel)
theorem ks_X0_divide : Cond.selects RX0 yX0_divide yX0_divide ∈ gW := gW_of 858 (by decide +kernel) (by decide +kernel)
theorem ks_X0_isBelow : Cond.selects RX0 yX0_isBelow yX0_isBelow ∈ gW := gW_of 865 (by decide +kernel) (by decide +kernel)
theorem ks_X0_digit : Cond.selects RX0 yX0_digit yX0_digit ∈ gW := gW_of 869 (by decide +kernel) (by decide +kernel)
theorem ks_X9_all : Cond.selects RX9 yX9_all yX9_all ∈ gW := gW_of 888 (by decide +kernel) (by decide +kernel)
theorem ks_X9_where : Cond.selects RX9 yX9_where yX9_where ∈ gW := gW_of 892 (by decide +kernel) (by decide +kernel)
theorem ks_X8_gatherWhere : Cond.selects RX8 yX8_gatherWhere yX8_gatherWhere ∈ gW := gW_of 896 (by decide +kernel) (by decide +kernel)
theorem ks_X9_so : Cond.selects RX9 yX9_so yX9_so ∈ gW := gW_of 900 (by decide +kernel) (by decide +kernel)
theorem ks_X9_lost : Cond.selects RX9 yX9_lost yX9_lost ∈ gW := gW_of 904 (by decide +kernel) (by decide +kernel)
theorem ks_X8_lostOf : Cond.selects RX8 yX8_lostOf yX8_lostOf ∈ gW := gW_of 908 (by decide +kernel) (by decide +kernel)
theorem ks_X9_next : Cond.selects RX9 yX9_next yX9_next ∈ gW := gW_of 912 (by decide +kernel) (by decide +kernel)
theorem ks_X8_digNext : Cond.selects RX8 yX8_digNext yX8_digNext ∈ gW := gW_of 916 (by decide +kernel) (by decide +kernel)
theorem ks_X9_fed : Cond.selects RX9 yX9_fed yX9_fed ∈ gW := gW_of 928 (by decide +kernel) (by decide +kernel)
theorem ks_X9_dry : Cond.selects RX9 yX9_dry yX9_dry ∈ gW := gW_of 933 (by decide +kernel) (by decide +kernel)
theorem ks_X9_many : Cond.selects RX9 yX9_many yX9_many ∈ gW := gW_of 941 (by decide +kernel) (by decide +kernel)
theorem ks_X9_stone : Cond.selects RX9 yX9_stone yX9_stone ∈ gW := gW_of 946 (by decide +kernel) (by decide +kernel)
theorem ks_X9_days : Cond.selects RX9 yX9_days yX9_days ∈ gW := gW_of 954 (by decide +kernel) (by decide +kernel)
theorem ks_X9_storm : Cond.selects RX9 yX9_storm yX9_storm ∈ gW := gW_of 958 (by decide +kernel) (by decide +kernel)
theorem ks_X9_sails : Cond.selects RX9 yX9_sails yX9_sails ∈ gW := gW_of 962 (by decide +kernel) (by decide +kernel)
theorem ks_X4_firstDayAt : Cond.selects RX4 yX4_firstDayAt yX4_firstDayAt ∈ gW := gW_of 966 (by decide +kernel) (by decide +kernel)
theorem ks_X9_back : Cond.selects RX9 yX9_back yX9_back ∈ gW := gW_of 982 (by decide +kernel) (by decide +kernel)
theorem ks_X9_part : Cond.selects RX9 yX9_part yX9_part ∈ gW := gW_of 986 (by decide +kernel) (by decide +kernel)
theorem ks_X9_limb : Cond.selects RX9 yX9_limb yX9_limb ∈ gW := gW_of 994 (by decide +kernel) (by decide +kernel)
theorem ks_X9_image : Cond.selects RX9 yX9_image yX9_image ∈ gW := gW_of 999 (by decide +kernel) (by decide +kernel)
theorem ks_X5_copy : Cond.selects RX5 yX5_copy yX5_copy ∈ gW := gW_of 1003 (by decide +kernel) (by decide +kernel)
theorem ks_X9_from : Cond.selects RX9 yX9_from yX9_from ∈ gW := gW_of 1015 (by decide +kernel) (by decide +kernel)
theorem ks_X9_status : Cond.selects RX9 yX9_status yX9_status ∈ gW := gW_of 1019 (by decide +kernel) (by decide +kernel)
theorem ks_X9_count : Cond.selects RX9 yX9_count yX9_count ∈ gW := gW_of 1023 (by decide +kernel) (by decide +kernel)
theorem ks_X5_countOf : Cond.selects RX5 yX5_countOf yX5_countOf ∈ gW := gW_of 1027 (by decide +kernel) (by decide +kernel)
theorem ks_X9_digest : Cond.selects RX9 yX9_digest yX9_digest ∈ gW := gW_of 1031 (by decide +kernel) (by decide +kernel)
theorem ks_X5_digestOnto : Cond.selects RX5 yX5_digestOnto yX5_digestOnto ∈ gW := gW_of 1036 (by decide +kernel) (by decide +kernel)
theorem ks_X10_place : Cond.selects RX10 yX10_place yX10_place ∈ gW := gW_of 1126 (by decide +kernel) (by decide +kernel)
theorem ks_X10_rain : Cond.selects RX10 yX10_rain yX10_rain ∈ gW := gW_of 1146 (by decide +kernel) (by decide +kernel)
theorem ks_X10_lot : Cond.selects RX10 yX10_lot yX10_lot ∈ gW := gW_of 1151 (by decide +kernel) (by decide +kernel)
theorem ks_X10_put : Cond.selects RX10 yX10_put yX10_put ∈ gW := gW_of 1160 (by decide +kernel) (by decide +kernel)
theorem ks_X10_kind : Cond.selects RX10 yX10_kind yX10_kind ∈ gW := gW_of 1164 (by decide +kernel) (by decide +kernel)
theorem ks_X10_prior : Cond.selects RX10 yX10_prior yX10_prior ∈ gW := gW_of 1173 (by decide +kernel) (by decide +kernel)
theorem ks_X10_type : Cond.selects RX10 yX10_type yX10_type ∈ gW := gW_of 1177 (by decide +kernel) (by decide +kernel)
theorem ks_X10_clear : Cond.selects RX10 yX10_clear yX10_clear ∈ gW := gW_of 1187 (by decide +kernel) (by decide +kernel)
theorem ks_X10_fault : Cond.selects RX10 yX10_fault yX10_fault ∈ gW := gW_of 1191 (by decide +kernel) (by decide +kernel)
theorem ks_X10_sign : Cond.selects RX10 yX10_sign yX10_sign ∈ gW := gW_of 1246 (by decide +kernel) (by decide +kernel)
theorem ks_X10_post : Cond.selects RX10 yX10_post yX10_post ∈ gW := gW_of 1259 (by decide +kernel) (by decide +kernel)
theorem ks_X10_teller : Cond.selects RX10 yX10_teller yX10_teller ∈ gW := gW_of 1263 (by decide +kernel) (by decide +kernel)
theorem ks_X10_at : Cond.selects RX10 yX10_at yX10_at ∈ gW := gW_of 1283 (by decide +kernel) (by decide +kernel)
theorem ks_X10_must : Cond.selects RX10 yX10_must yX10_must ∈ gW := gW_of 1299 (by decide +kernel) (by decide +kernel)
theorem ks_X10_hunger : Cond.selects RX10 yX10_hunger yX10_hunger ∈ gW := gW_of 1311 (by decide +kernel) (by decide +kernel)
theorem ks_X10_odds : Cond.selects RX10 yX10_odds yX10_odds ∈ gW := gW_of 1327 (by decide +kernel) (by decide +kernel)
theorem ks_X10_all : Cond.selects RX10 yX10_all yX10_all ∈ gW := gW_of 1424 (by decide +kernel) (by decide +kernel)
theorem ks_X10_where : Cond.selects RX10 yX10_where yX10_where ∈ gW := gW_of 1428 (by decide +kernel) (by decide +kernel)
theorem ks_X10_so : Cond.selects RX10 yX10_so yX10_so ∈ gW := gW_of 1432 (by decide +kernel) (by decide +kernel)
theorem ks_X10_lost : Cond.selects RX10 yX10_lost yX10_lost ∈ gW := gW_of 1436 (by decide +kernel) (by decide +kernel)
theorem ks_X10_next : Cond.selects RX10 yX10_next yX10_next ∈ gW := gW_of 1440 (by decide +kernel) (by decide +kernel)
theorem ks_X10_fed : Cond.selects RX10 yX10_fed yX10_fed ∈ gW := gW_of 1448 (by decide +kernel) (by decide +kernel)
theorem ks_X10_dry : Cond.selects RX10 yX10_dry yX10_dry ∈ gW := gW_of 1455 (by decide +kernel) (by decide +kernel)
theorem ks_X10_many : Cond.selects RX10 yX10_many yX10_many ∈ gW := gW_of 1459 (by decide +kernel) (by decide +kernel)
theorem ks_X10_stone : Cond.selects RX10 yX10_stone yX10_stone ∈ gW := gW_of 1465 (by decide +kernel) (by decide +kernel)
theorem ks_X10_days : Cond.selects RX10 yX10_days yX10_days ∈ gW := gW_of 1477 (by decide +kernel) (by decide +kernel)
theorem ks_X10_storm : Cond.selects RX10 yX10_storm yX10_storm ∈ gW := gW_of 1481 (by decide +kernel) (by decide +kernel)
theorem ks_X10_sails : Cond.selects RX10 yX10_sails yX10_sails ∈ gW := gW_of 1489 (by decide +kernel) (by decide +kernel)
theorem ks_X10_back : Cond.selects RX10 yX10_back yX10_back ∈ gW := gW_of 1501 (by decide +kernel) (by decide +kernel)
theorem ks_X10_part : Cond.selects RX10 yX10_part yX10_part ∈ gW := gW_of 1505 (by decide +kernel) (by decide +kernel)
theorem ks_X10_limb : Cond.selects RX10 yX10_limb yX10_limb ∈ gW := gW_of 1509 (by decide +kernel) (by decide +kernel)
theorem ks_X10_image : Cond.selects RX10 yX10_image yX10_image ∈ gW := gW_of 1513 (by decide +kernel) (by decide +kernel)
theorem ks_X10_from : Cond.selects RX10 yX10_from yX10_from ∈ gW := gW_of 1517 (by decide +kernel) (by decide +kernel)
theorem ks_X10_status : Cond.selects RX10 yX10_status yX10_status ∈ gW := gW_of 1521 (by decide +kernel) (by decide +kernel)
theorem ks_X10_count : Cond.selects RX10 yX10_count yX10_count ∈ gW := gW_of 1525 (by decide +kernel) (by decide +kernel)
theorem ks_X10_digest : Cond.selects RX10 yX10_digest yX10_digest ∈ gW := gW_of 1534 (by decide +kernel) (by decide +kernel)
theorem ks_X9_bad : Cond.selects RX9 yX9_bad yX9_bad ∈ gW := gW_of 0 (by decide +kernel) (by decide +kernel)
theorem ks_X9_full : Cond.selects RX9 yX9_full yX9_full ∈ gW := gW_of 1 (by decide +kernel) (by decide +kernel)
theorem ks_X9_changed : Cond.selects RX9 yX9_changed yX9_changed ∈ gW := gW_of 2 (by decide +kernel) (by decide +kernel)
theorem ks_X9_exchange : Cond.selects RX9 yX9_exchange yX9_exchange ∈ gW := gW_of 3 (by decide +kernel) (by decide +kernel)
theorem ks_X7_readLetters : Cond.selects RX7 yX7_readLetters yX7_readLetters ∈ gW := gW_of 4 (by decide +kernel) (by decide +kernel)
theorem ks_X7_keep : Cond.selects RX7 yX7_keep yX7_keep ∈ gW := gW_of 5 (by decide +kernel) (by decide +kernel)
theorem ks_X7_readFigures : Cond.selects RX7 yX7_readFigures yX7_readFigures ∈ gW := gW_of 6 (by decide +kernel) (by decide +kernel)
theorem ks_X6_readItem : Cond.selects RX6 yX6_readItem yX6_readItem ∈ gW := gW_of 7 (by decide +kernel) (by decide +kernel)
theorem ks_X6_mayBegin : Cond.selects RX6 yX6_mayBegin yX6_mayBegin ∈ gW := gW_of 8 (by decide +kernel) (by decide +kernel)
theorem ks_X6_take : Cond.selects RX6 yX6_take yX6_take ∈ gW := gW_of 9 (by decide +kernel) (by decide +kernel)
theorem ks_X6_stayUntil : Cond.selects RX6 yX6_stayUntil yX6_stayUntil ∈ gW := gW_of 10 (by decide +kernel) (by decide +kernel)
theorem ks_X3_findTurns : Cond.selects RX3 yX3_findTurns yX3_findTurns ∈ gW := gW_of 11 (by decide +kernel) (by decide +kernel)
theorem ks_X3_someoneMoves : Cond.selects RX3 yX3_someoneMoves yX3_someoneMoves ∈ gW := gW_of 12 (by decide +kernel) (by decide +kernel)
theorem ks_X9_noPlace : Cond.selects RX9 yX9_noPlace yX9_noPlace ∈ gW := gW_of 13 (by decide +kernel) (by decide +kernel)
theorem ks_X9_noLot : Cond.selects RX9 yX9_noLot yX9_noLot ∈ gW := gW_of 14 (by decide +kernel) (by decide +kernel)
theorem ks_X9_noWhere : Cond.selects RX9 yX9_noWhere yX9_noWhere ∈ gW := gW_of 15 (by decide +kernel) (by decide +kernel)
theorem ks_X9_hasFault : Cond.selects RX9 yX9_hasFault yX9_hasFault ∈ gW := gW_of 16 (by decide +kernel) (by decide +kernel)
theorem ks_X9_no : Cond.selects RX9 yX9_no yX9_no ∈ gW := gW_of 17 (by decide +kernel) (by decide +kernel)
theorem ks_X3_countHeads : Cond.selects RX3 yX3_countHeads yX3_countHeads ∈ gW := gW_of 18 (by decide +kernel) (by decide +kernel)
theorem ks_X9_noWorlds : Cond.selects RX9 yX9_noWorlds yX9_noWorlds ∈ gW := gW_of 19 (by decide +kernel) (by decide +kernel)
theorem ks_X8_forgetSums : Cond.selects RX8 yX8_forgetSums yX8_forgetSums ∈ gW := gW_of 20 (by decide +kernel) (by decide +kernel)
theorem ks_X8_shareOut : Cond.selects RX8 yX8_shareOut yX8_shareOut ∈ gW := gW_of 21 (by decide +kernel) (by decide +kernel)
theorem ks_X8_tellersShare : Cond.selects RX8 yX8_tellersShare yX8_tellersShare ∈ gW := gW_of 22 (by decide +kernel) (by decide +kernel)
theorem ks_X8_postShare : Cond.selects RX8 yX8_postShare yX8_postShare ∈ gW := gW_of 23 (by decide +kernel) (by decide +kernel)
theorem ks_X1_weighSign : Cond.selects RX1 yX1_weighSign yX1_weighSign ∈ gW := gW_of 24 (by decide +kernel) (by decide +kernel)
theorem ks_X1_carry : Cond.selects RX1 yX1_carry yX1_carry ∈ gW := gW_of 25 (by decide +kernel) (by decide +kernel)
theorem ks_X0_growTo : Cond.selects RX0 yX0_growTo yX0_growTo ∈ gW := gW_of 26 (by decide +kernel) (by decide +kernel)
theorem ks_X0_trim : Cond.selects RX0 yX0_trim yX0_trim ∈ gW := gW_of 27 (by decide +kernel) (by decide +kernel)
theorem ks_X8_weigh : Cond.selects RX8 yX8_weigh yX8_weigh ∈ gW := gW_of 28 (by decide +kernel) (by decide +kernel)
theorem ks_X8_addUp : Cond.selects RX8 yX8_addUp yX8_addUp ∈ gW := gW_of 29 (by decide +kernel) (by decide +kernel)
theorem ks_X9_answerShare : Cond.selects RX9 yX9_answerShare yX9_answerShare ∈ gW := gW_of 30 (by decide +kernel) (by decide +kernel)
theorem ks_X2_findDivisor : Cond.selects RX2 yX2_findDivisor yX2_findDivisor ∈ gW := gW_of 31 (by decide +kernel) (by decide +kernel)
theorem ks_X0_topTwo : Cond.selects RX0 yX0_topTwo yX0_topTwo ∈ gW := gW_of 32 (by decide +kernel) (by decide +kernel)
theorem ks_X0_takeAway : Cond.selects RX0 yX0_takeAway yX0_takeAway ∈ gW := gW_of 33 (by decide +kernel) (by decide +kernel)
theorem ks_X0_raise : Cond.selects RX0 yX0_raise yX0_raise ∈ gW := gW_of 34 (by decide +kernel) (by decide +kernel)
theorem ks_X8_differenceAt : Cond.selects RX8 yX8_differenceAt yX8_differenceAt ∈ gW := gW_of 35 (by decide +kernel) (by decide +kernel)
theorem ks_X9_worse : Cond.selects RX9 yX9_worse yX9_worse ∈ gW := gW_of 36 (by decide +kernel) (by decide +kernel)
theorem ks_X4_soonest : Cond.selects RX4 yX4_soonest yX4_soonest ∈ gW := gW_of 37 (by decide +kernel) (by decide +kernel)
theorem ks_X4_sailOnFrom : Cond.selects RX4 yX4_sailOnFrom yX4_sailOnFrom ∈ gW := gW_of 38 (by decide +kernel) (by decide +kernel)
theorem ks_X9_partOf : Cond.selects RX9 yX9_partOf yX9_partOf ∈ gW := gW_of 39 (by decide +kernel) (by decide +kernel)
theorem ks_X10_set : Cond.selects RX10 yX10_set yX10_set ∈ gW := gW_of 40 (by decide +kernel) (by decide +kernel)
theorem ks_X10_bad : Cond.selects RX10 yX10_bad yX10_bad ∈ gW := gW_of 41 (by decide +kernel) (by decide +kernel)
theorem ks_X10_places : Cond.selects RX10 yX10_places yX10_places ∈ gW := gW_of 42 (by decide +kernel) (by decide +kernel)
theorem ks_X10_full : Cond.selects RX10 yX10_full yX10_full ∈ gW := gW_of 43 (by decide +kernel) (by decide +kernel)
theorem ks_X10_lots : Cond.selects RX10 yX10_lots yX10_lots ∈ gW := gW_of 44 (by decide +kernel) (by decide +kernel)
theorem ks_X10_textLong : Cond.selects RX10 yX10_textLong yX10_textLong ∈ gW := gW_of 45 (by decide +kernel) (by decide +kernel)
theorem ks_X10_readsStory : Cond.selects RX10 yX10_readsStory yX10_readsStory ∈ gW := gW_of 46 (by decide +kernel) (by decide +kernel)
theorem ks_X10_layFrom : Cond.selects RX10 yX10_layFrom yX10_layFrom ∈ gW := gW_of 47 (by decide +kernel) (by decide +kernel)
theorem ks_X10_look : Cond.selects RX10 yX10_look yX10_look ∈ gW := gW_of 48 (by decide +kernel) (by decide +kernel)
theorem ks_X10_byteAt : Cond.selects RX10 yX10_byteAt yX10_byteAt ∈ gW := gW_of 49 (by decide +kernel) (by decide +kernel)
theorem ks_X10_readItem : Cond.selects RX10 yX10_readItem yX10_readItem ∈ gW := gW_of 50 (by decide +kernel) (by decide +kernel)
theorem ks_X10_isWord : Cond.selects RX10 yX10_isWord yX10_isWord ∈ gW := gW_of 51 (by decide +kernel) (by decide +kernel)
theorem ks_X10_goOn : Cond.selects RX10 yX10_goOn yX10_goOn ∈ gW := gW_of 52 (by decide +kernel) (by decide +kernel)
theorem ks_X10_takesMonth : Cond.selects RX10 yX10_takesMonth yX10_takesMonth ∈ gW := gW_of 53 (by decide +kernel) (by decide +kernel)
theorem ks_X10_isPlace : Cond.selects RX10 yX10_isPlace yX10_isPlace ∈ gW := gW_of 54 (by decide +kernel) (by decide +kernel)
theorem ks_X10_stops : Cond.selects RX10 yX10_stops yX10_stops ∈ gW := gW_of 55 (by decide +kernel) (by decide +kernel)
theorem ks_X10_isSigned : Cond.selects RX10 yX10_isSigned yX10_isSigned ∈ gW := gW_of 56 (by decide +kernel) (by decide +kernel)
theorem ks_X10_signs : Cond.selects RX10 yX10_signs yX10_signs ∈ gW := gW_of 57 (by decide +kernel) (by decide +kernel)
theorem ks_X10_isLot : Cond.selects RX10 yX10_isLot yX10_isLot ∈ gW := gW_of 58 (by decide +kernel) (by decide +kernel)
theorem ks_X10_isWhere : Cond.selects RX10 yX10_isWhere yX10_isWhere ∈ gW := gW_of 59 (by decide +kernel) (by decide +kernel)
theorem ks_X10_tellers : Cond.selects RX10 yX10_tellers yX10_tellers ∈ gW := gW_of 60 (by decide +kernel) (by decide +kernel)
theorem ks_X10_laysOne : Cond.selects RX10 yX10_laysOne yX10_laysOne ∈ gW := gW_of 61 (by decide +kernel) (by decide +kernel)
theorem ks_X10_readAll : Cond.selects RX10 yX10_readAll yX10_readAll ∈ gW := gW_of 62 (by decide +kernel) (by decide +kernel)
theorem ks_X10_no : Cond.selects RX10 yX10_no yX10_no ∈ gW := gW_of 63 (by decide +kernel) (by decide +kernel)
theorem ks_X10_leftOf : Cond.selects RX10 yX10_leftOf yX10_leftOf ∈ gW := gW_of 64 (by decide +kernel) (by decide +kernel)
theorem ks_X10_whereOf : Cond.selects RX10 yX10_whereOf yX10_whereOf ∈ gW := gW_of 65 (by decide +kernel) (by decide +kernel)
theorem ks_X10_hungerOf : Cond.selects RX10 yX10_hungerOf yX10_hungerOf ∈ gW := gW_of 66 (by decide +kernel) (by decide +kernel)
theorem ks_X10_isHungry : Cond.selects RX10 yX10_isHungry yX10_isHungry ∈ gW := gW_of 67 (by decide +kernel) (by decide +kernel)
theorem ks_X10_fedOf : Cond.selects RX10 yX10_fedOf yX10_fedOf ∈ gW := gW_of 68 (by decide +kernel) (by decide +kernel)
theorem ks_X10_tellsShare : Cond.selects RX10 yX10_tellsShare yX10_tellsShare ∈ gW := gW_of 69 (by decide +kernel) (by decide +kernel)
theorem ks_X10_sumsUp : Cond.selects RX10 yX10_sumsUp yX10_sumsUp ∈ gW := gW_of 70 (by decide +kernel) (by decide +kernel)
theorem ks_X10_worlds : Cond.selects RX10 yX10_worlds yX10_worlds ∈ gW := gW_of 71 (by decide +kernel) (by decide +kernel)
theorem ks_X10_laysWorld : Cond.selects RX10 yX10_laysWorld yX10_laysWorld ∈ gW := gW_of 72 (by decide +kernel) (by decide +kernel)
theorem ks_X10_weigh : Cond.selects RX10 yX10_weigh yX10_weigh ∈ gW := gW_of 73 (by decide +kernel) (by decide +kernel)
theorem ks_X10_times : Cond.selects RX10 yX10_times yX10_times ∈ gW := gW_of 74 (by decide +kernel) (by decide +kernel)
theorem ks_X10_trim : Cond.selects RX10 yX10_trim yX10_trim ∈ gW := gW_of 75 (by decide +kernel) (by decide +kernel)
theorem ks_X10_timesAll : Cond.selects RX10 yX10_timesAll yX10_timesAll ∈ gW := gW_of 76 (by decide +kernel) (by decide +kernel)
theorem ks_X10_isHeard : Cond.selects RX10 yX10_isHeard yX10_isHeard ∈ gW := gW_of 77 (by decide +kernel) (by decide +kernel)
theorem ks_X10_isSaidSo : Cond.selects RX10 yX10_isSaidSo yX10_isSaidSo ∈ gW := gW_of 78 (by decide +kernel) (by decide +kernel)
theorem ks_X10_findSign : Cond.selects RX10 yX10_findSign yX10_findSign ∈ gW := gW_of 79 (by decide +kernel) (by decide +kernel)
theorem ks_X10_add : Cond.selects RX10 yX10_add yX10_add ∈ gW := gW_of 80 (by decide +kernel) (by decide +kernel)
theorem ks_X10_product : Cond.selects RX10 yX10_product yX10_product ∈ gW := gW_of 81 (by decide +kernel) (by decide +kernel)
theorem ks_X10_copy : Cond.selects RX10 yX10_copy yX10_copy ∈ gW := gW_of 82 (by decide +kernel) (by decide +kernel)
theorem ks_X10_holds : Cond.selects RX10 yX10_holds yX10_holds ∈ gW := gW_of 83 (by decide +kernel) (by decide +kernel)
theorem ks_X10_tell : Cond.selects RX10 yX10_tell yX10_tell ∈ gW := gW_of 84 (by decide +kernel) (by decide +kernel)
theorem ks_X10_findDivisor : Cond.selects RX10 yX10_findDivisor yX10_findDivisor ∈ gW := gW_of 85 (by decide +kernel) (by decide +kernel)
theorem ks_X10_isEven : Cond.selects RX10 yX10_isEven yX10_isEven ∈ gW := gW_of 86 (by decide +kernel) (by decide +kernel)
theorem ks_X10_halve : Cond.selects RX10 yX10_halve yX10_halve ∈ gW := gW_of 87 (by decide +kernel) (by decide +kernel)
theorem ks_X10_compare : Cond.selects RX10 yX10_compare yX10_compare ∈ gW := gW_of 88 (by decide +kernel) (by decide +kernel)
theorem ks_X10_take : Cond.selects RX10 yX10_take yX10_take ∈ gW := gW_of 89 (by decide +kernel) (by decide +kernel)
theorem ks_X10_divide : Cond.selects RX10 yX10_divide yX10_divide ∈ gW := gW_of 90 (by decide +kernel) (by decide +kernel)
theorem ks_X10_addOne : Cond.selects RX10 yX10_addOne yX10_addOne ∈ gW := gW_of 91 (by decide +kernel) (by decide +kernel)
theorem ks_X10_differs : Cond.selects RX10 yX10_differs yX10_differs ∈ gW := gW_of 92 (by decide +kernel) (by decide +kernel)
theorem ks_X10_tells : Cond.selects RX10 yX10_tells yX10_tells ∈ gW := gW_of 93 (by decide +kernel) (by decide +kernel)
theorem ks_X10_sailsTo : Cond.selects RX10 yX10_sailsTo yX10_sailsTo ∈ gW := gW_of 94 (by decide +kernel) (by decide +kernel)
theorem ks_X10_dayBehind : Cond.selects RX10 yX10_dayBehind yX10_dayBehind ∈ gW := gW_of 95 (by decide +kernel) (by decide +kernel)
theorem ks_X10_counted : Cond.selects RX10 yX10_counted yX10_counted ∈ gW := gW_of 96 (by decide +kernel) (by decide +kernel)
theorem ks_X10_sums : Cond.selects RX10 yX10_sums yX10_sums ∈ gW := gW_of 97 (by decide +kernel) (by decide +kernel)
theorem kn_L : Cond.initialized RL ∈ gW := gW_of 98 (by decide +kernel) (by decide +kernel)
theorem kn_X9 : Cond.initialized RX9 ∈ gW := gW_of 99 (by decide +kernel) (by decide +kernel)
theorem kn_X8 : Cond.initialized RX8 ∈ gW := gW_of 100 (by decide +kernel) (by decide +kernel)
theorem kn_X3 : Cond.initialized RX3 ∈ gW := gW_of 101 (by decide +kernel) (by decide +kernel)
theorem kn_X5 : Cond.initialized RX5 ∈ gW := gW_of 102 (by decide +kernel) (by decide +kernel)
theorem kn_J7 : Cond.initialized RJ7 ∈ gW := gW_of 103 (by decide +kernel) (by decide +kernel)
theorem kn_X7 : Cond.initialized RX7 ∈ gW := gW_of 104 (by decide +kernel) (by decide +kernel)
theorem kn_X6 : Cond.initialized RX6 ∈ gW := gW_of 105 (by decide +kernel) (by decide +kernel)
theorem kn_X1 : Cond.initialized RX1 ∈ gW := gW_of 106 (by decide +kernel) (by decide +kernel)
theorem kn_X0 : Cond.initialized RX0 ∈ gW := gW_of 107 (by decide +kernel) (by decide +kernel)
theorem kn_J9 : Cond.initialized RJ9 ∈ gW := gW_of 108 (by decide +kernel) (by decide +kernel)
theorem kn_X2 : Cond.initialized RX2 ∈ gW := gW_of 109 (by decide +kernel) (by decide +kernel)
theorem kn_X4 : Cond.initialized RX4 ∈ gW := gW_of 110 (by decide +kernel) (by decide +kernel)
theorem kn_X10 : Cond.initialized RX10 ∈ gW := gW_of 111 (by decide +kernel) (by decide +kernel)
theorem kn_J10 : Cond.initialized RJ10 ∈ gW := gW_of 112 (by decide +kernel) (by decide +kernel)
theorem kj_X9 : Cond.instantiable RX9 12 ∈ gW := gW_of 114 (by decide +kernel) (by decide +kernel)
theorem kj_X8 : Cond.instantiable RX8 12 ∈ gW := gW_of 122 (by decide +kernel) (by decide +kernel)
theorem kj_X3 : Cond.instantiable RX3 10 ∈ gW := gW_of 128 (by decide +kernel) (by decide +kernel)
theorem kj_X5 : Cond.instantiable RX5 17 ∈ gW := gW_of 134 (by decide +kernel) (by decide +kernel)
theorem kj_X7 : Cond.instantiable RX7 5 ∈ gW := gW_of 236 (by decide +kernel) (by decide +kernel)
theorem kj_X6 : Cond.instantiable RX6 8 ∈ gW := gW_of 260 (by decide +kernel) (by decide +kernel)
theorem kj_X1 : Cond.instantiable RX1 4 ∈ gW := gW_of 336 (by decide +kernel) (by decide +kernel)
theorem kj_X0 : Cond.instantiable RX0 2 ∈ gW := gW_of 343 (by decide +kernel) (by decide +kernel)
theorem kj_X2 : Cond.instantiable RX2 5 ∈ gW := gW_of 420 (by decide +kernel) (by decide +kernel)
theorem kj_X4 : Cond.instantiable RX4 2 ∈ gW := gW_of 452 (by decide +kernel) (by decide +kernel)
theorem kj_X10 : Cond.instantiable RX10 21 ∈ gW := gW_of 1049 (by decide +kernel) (by decide +kernel)
set_option maxRecDepth 20000 in
theorem kk_X0_init : Cond.code yX0_init cX0_init 2 none ∈ gW := gW_of 346 rfl rfl
set_option maxRecDepth 20000 in
theorem kk_X0_isZero : Cond.code yX0_isZero cX0_isZero 1 (some .boolean) ∈ gW := gW_of 817 rfl rfl
set_option maxRecDepth 20000 in
theorem kk_X0_digit : Cond.code yX0_digit cX0_digit 2 (some .int) ∈ gW := gW_of 870 rfl rfl
set_option maxRecDepth 20000 in
theorem kk_X0_growTo : Cond.code yX0_growTo cX0_growTo 2 none ∈ gW := gW_of 795 rfl rfl
set_option maxRecDepth 20000 in
theorem kk_X0_trim : Cond.code yX0_trim cX0_trim 1 none ∈ gW := gW_of 800 rfl rfl
set_option maxRecDepth 20000 in
theorem kk_X0_become : Cond.code yX0_become cX0_become 5 none ∈ gW := gW_of 430 rfl rfl
set_option maxRecDepth 20000 in
theorem kk_X0_copy : Cond.code yX0_copy cX0_copy 2 none ∈ gW := gW_of 774 rfl rfl
set_option maxRecDepth 20000 in
theorem kk_X0_times : Cond.code yX0_times cX0_times 5 none ∈ gW := gW_of 786 rfl rfl
set_option maxRecDepth 20000 in
theorem kk_X0_timesPower : Cond.code yX0_timesPower cX0_timesPower 6 none ∈ gW := gW_of 782 rfl rfl
set_option maxRecDepth 20000 in
theorem kk_X0_plus : Cond.code yX0_plus cX0_plus 4 none ∈ gW := gW_of 791 rfl rfl
set_option maxRecDepth 20000 in
theorem kk_X0_product : Cond.code yX0_product cX0_product 9 none ∈ gW := gW_of 823 rfl rfl
set_option maxRecDepth 20000 in
theorem kk_X0_isBelow : Cond.code yX0_isBelow cX0_isBelow 3 (some .boolean) ∈ gW := gW_of 866 rfl rfl
set_option maxRecDepth 20000 in
theorem kk_X0_divide : Cond.code yX0_divide cX0_divide 11 none ∈ gW := gW_of 859 rfl rfl
set_option maxRecDepth 20000 in
theorem kk_X0_topTwo : Cond.code yX0_topTwo cX0_topTwo 1 (some .long) ∈ gW := gW_of 874 rfl rfl
set_option maxRecDepth 20000 in
theorem kk_X0_takeAway : Cond.code yX0_takeAway cX0_takeAway 8 none ∈ gW := gW_of 881 rfl rfl
set_option maxRecDepth 20000 in
theorem kk_X0_raise : Cond.code yX0_raise cX0_raise 5 none ∈ gW := gW_of 885 rfl rfl
set_option maxRecDepth 20000 in
theorem kk_X1_init : Cond.code yX1_init cX1_init 2 none ∈ gW := gW_of 339 rfl rfl
set_option maxRecDepth 20000 in
theorem kk_X1_of : Cond.code yX1_of cX1_of 3 (some (.object "WordOnPost$Big")) ∈ gW := gW_of 770 rfl rfl
set_option maxRecDepth 20000 in
theorem kk_X1_refresh : Cond.code yX1_refresh cX1_refresh 6 none ∈ gW := gW_of 757 rfl rfl
set_option maxRecDepth 20000 in
theorem kk_X1_weighSign : Cond.code yX1_weighSign cX1_weighSign 8 none ∈ gW := gW_of 761 rfl rfl
set_option maxRecDepth 20000 in
theorem kk_X1_carry : Cond.code yX1_carry cX1_carry 6 none ∈ gW := gW_of 765 rfl rfl
set_option maxRecDepth 20000 in
theorem kk_X2_init : Cond.code yX2_init cX2_init 1 none ∈ gW := gW_of 423 rfl rfl
set_option maxRecDepth 20000 in
theorem kk_X2_become : Cond.code yX2_become cX2_become 3 none ∈ gW := gW_of 848 rfl rfl
set_option maxRecDepth 20000 in
theorem kk_X2_findDivisor : Cond.code yX2_findDivisor cX2_findDivisor 3 none ∈ gW := gW_of 853 rfl rfl
set_option maxRecDepth 20000 in
theorem kk_X3_init : Cond.code yX3_init cX3_init 2 none ∈ gW := gW_of 131 rfl rfl
set_option maxRecDepth 20000 in
theorem kk_X3_refresh : Cond.code yX3_refresh cX3_refresh 3 none ∈ gW := gW_of 568 rfl rfl
set_option maxRecDepth 20000 in
theorem kk_X3_findTurns : Cond.code yX3_findTurns cX3_findTurns 2 none ∈ gW := gW_of 642 rfl rfl
set_option maxRecDepth 20000 in
theorem kk_X3_someoneMoves : Cond.code yX3_someoneMoves cX3_someoneMoves 4 (some .boolean) ∈ gW := gW_of 646 rfl rfl
set_option maxRecDepth 20000 in
theorem kk_X3_allLive : Cond.code yX3_allLive cX3_allLive 2 none ∈ gW := gW_of 697 rfl rfl
set_option maxRecDepth 20000 in
theorem kk_X3_choose : Cond.code yX3_choose cX3_choose 3 (some .boolean) ∈ gW := gW_of 808 rfl rfl
set_option maxRecDepth 20000 in
theorem kk_X3_doAllLive : Cond.code yX3_doAllLive cX3_doAllLive 3 (some .boolean) ∈ gW := gW_of 838 rfl rfl
set_option maxRecDepth 20000 in
theorem kk_X3_left : Cond.code yX3_left cX3_left 6 (some .int) ∈ gW := gW_of 702 rfl rfl
set_option maxRecDepth 20000 in
theorem kk_X3_hungerYears : Cond.code yX3_hungerYears cX3_hungerYears 5 (some .int) ∈ gW := gW_of 713 rfl rfl
set_option maxRecDepth 20000 in
theorem kk_X3_countHeads : Cond.code yX3_countHeads cX3_countHeads 4 none ∈ gW := gW_of 717 rfl rfl
set_option maxRecDepth 20000 in
theorem kk_X3_mostHunger : Cond.code yX3_mostHunger cX3_mostHunger 5 (some .int) ∈ gW := gW_of 804 rfl rfl
set_option maxRecDepth 20000 in
theorem kk_X4_init : Cond.code yX4_init cX4_init 1 none ∈ gW := gW_of 455 rfl rfl
set_option maxRecDepth 20000 in
theorem kk_X4_firstDayAt : Cond.code yX4_firstDayAt cX4_firstDayAt 7 (some .int) ∈ gW := gW_of 967 rfl rfl
set_option maxRecDepth 20000 in
theorem kk_X4_soonest : Cond.code yX4_soonest cX4_soonest 3 (some .int) ∈ gW := gW_of 972 rfl rfl
set_option maxRecDepth 20000 in
theorem kk_X4_sailOnFrom : Cond.code yX4_sailOnFrom cX4_sailOnFrom 6 none ∈ gW := gW_of 976 rfl rfl
set_option maxRecDepth 20000 in
theorem kk_X4_endOfLeg : Cond.code yX4_endOfLeg cX4_endOfLeg 5 (some .int) ∈ gW := gW_of 979 rfl rfl
set_option maxRecDepth 20000 in
theorem kk_X5_init : Cond.code yX5_init cX5_init 2 none ∈ gW := gW_of 137 rfl rfl
set_option maxRecDepth 20000 in
theorem kk_X5_copy : Cond.code yX5_copy cX5_copy 2 none ∈ gW := gW_of 1004 rfl rfl
set_option maxRecDepth 20000 in
theorem kk_X5_copyRow : Cond.code yX5_copyRow cX5_copyRow 2 none ∈ gW := gW_of 1007 rfl rfl
set_option maxRecDepth 20000 in
theorem kk_X5_copyRows : Cond.code yX5_copyRows cX5_copyRows 3 none ∈ gW := gW_of 1012 rfl rfl
set_option maxRecDepth 20000 in
theorem kk_X5_feedsIn : Cond.code yX5_feedsIn cX5_feedsIn 3 (some .int) ∈ gW := gW_of 638 rfl rfl
set_option maxRecDepth 20000 in
theorem kk_X5_hasSign : Cond.code yX5_hasSign cX5_hasSign 4 (some .boolean) ∈ gW := gW_of 658 rfl rfl
set_option maxRecDepth 20000 in
theorem kk_X5_isHeard : Cond.code yX5_isHeard cX5_isHeard 3 (some .boolean) ∈ gW := gW_of 746 rfl rfl
set_option maxRecDepth 20000 in
theorem kk_X5_countOf : Cond.code yX5_countOf cX5_countOf 2 (some .int) ∈ gW := gW_of 1028 rfl rfl
set_option maxRecDepth 20000 in
theorem kk_X5_digestOnto : Cond.code yX5_digestOnto cX5_digestOnto 6 (some .long) ∈ gW := gW_of 1037 rfl rfl
set_option maxRecDepth 20000 in
theorem kk_X5_digestRows : Cond.code yX5_digestRows cX5_digestRows 7 (some .long) ∈ gW := gW_of 1046 rfl rfl
set_option maxRecDepth 20000 in
theorem kk_X6_init : Cond.code yX6_init cX6_init 1 none ∈ gW := gW_of 263 rfl rfl
set_option maxRecDepth 20000 in
theorem kk_X6_read : Cond.code yX6_read cX6_read 4 none ∈ gW := gW_of 602 rfl rfl
set_option maxRecDepth 20000 in
theorem kk_X6_readItem : Cond.code yX6_readItem cX6_readItem 6 (some .boolean) ∈ gW := gW_of 611 rfl rfl
set_option maxRecDepth 20000 in
theorem kk_X6_mayBegin : Cond.code yX6_mayBegin cX6_mayBegin 2 (some .boolean) ∈ gW := gW_of 615 rfl rfl
set_option maxRecDepth 20000 in
theorem kk_X6_isLeg : Cond.code yX6_isLeg cX6_isLeg 1 (some .boolean) ∈ gW := gW_of 618 rfl rfl
set_option maxRecDepth 20000 in
theorem kk_X6_take : Cond.code yX6_take cX6_take 4 none ∈ gW := gW_of 626 rfl rfl
set_option maxRecDepth 20000 in
theorem kk_X6_stayUntil : Cond.code yX6_stayUntil cX6_stayUntil 3 none ∈ gW := gW_of 630 rfl rfl
set_option maxRecDepth 20000 in
theorem kk_X7_init : Cond.code yX7_init cX7_init 1 none ∈ gW := gW_of 239 rfl rfl
set_option maxRecDepth 20000 in
theorem kk_X7_read : Cond.code yX7_read cX7_read 5 none ∈ gW := gW_of 572 rfl rfl
set_option maxRecDepth 20000 in
theorem kk_X7_tokenAt : Cond.code yX7_tokenAt cX7_tokenAt 2 (some .int) ∈ gW := gW_of 607 rfl rfl
set_option maxRecDepth 20000 in
theorem kk_X7_startAt : Cond.code yX7_startAt cX7_startAt 2 (some .int) ∈ gW := gW_of 634 rfl rfl
set_option maxRecDepth 20000 in
theorem kk_X7_valueAt : Cond.code yX7_valueAt cX7_valueAt 2 (some .int) ∈ gW := gW_of 622 rfl rfl
set_option maxRecDepth 20000 in
theorem kk_X7_keep : Cond.code yX7_keep cX7_keep 4 none ∈ gW := gW_of 591 rfl rfl
set_option maxRecDepth 20000 in
theorem kk_X7_readLetters : Cond.code yX7_readLetters cX7_readLetters 6 none ∈ gW := gW_of 579 rfl rfl
set_option maxRecDepth 20000 in
theorem kk_X7_wordOf : Cond.code yX7_wordOf cX7_wordOf 2 (some .int) ∈ gW := gW_of 582 rfl rfl
set_option maxRecDepth 20000 in
theorem kk_X7_readFigures : Cond.code yX7_readFigures cX7_readFigures 5 none ∈ gW := gW_of 598 rfl rfl
set_option maxRecDepth 20000 in
theorem kk_X7_isLetter : Cond.code yX7_isLetter cX7_isLetter 1 (some .boolean) ∈ gW := gW_of 575 rfl rfl
set_option maxRecDepth 20000 in
theorem kk_X7_isFigure : Cond.code yX7_isFigure cX7_isFigure 1 (some .boolean) ∈ gW := gW_of 594 rfl rfl
set_option maxRecDepth 20000 in
theorem kk_X8_init : Cond.code yX8_init cX8_init 2 none ∈ gW := gW_of 125 rfl rfl
set_option maxRecDepth 20000 in
theorem kk_X8_livedBy : Cond.code yX8_livedBy cX8_livedBy 3 (some (.object "WordOnPost$Big")) ∈ gW := gW_of 834 rfl rfl
set_option maxRecDepth 20000 in
theorem kk_X8_refresh : Cond.code yX8_refresh cX8_refresh 3 none ∈ gW := gW_of 729 rfl rfl
set_option maxRecDepth 20000 in
theorem kk_X8_forgetSums : Cond.code yX8_forgetSums cX8_forgetSums 2 none ∈ gW := gW_of 733 rfl rfl
set_option maxRecDepth 20000 in
theorem kk_X8_shareOut : Cond.code yX8_shareOut cX8_shareOut 4 none ∈ gW := gW_of 738 rfl rfl
set_option maxRecDepth 20000 in
theorem kk_X8_tellersShare : Cond.code yX8_tellersShare cX8_tellersShare 8 (some .int) ∈ gW := gW_of 742 rfl rfl
set_option maxRecDepth 20000 in
theorem kk_X8_postShare : Cond.code yX8_postShare cX8_postShare 4 (some .int) ∈ gW := gW_of 753 rfl rfl
set_option maxRecDepth 20000 in
theorem kk_X8_of10 : Cond.code yX8_of10 cX8_of10 2 (some .int) ∈ gW := gW_of 749 rfl rfl
set_option maxRecDepth 20000 in
theorem kk_X8_weigh : Cond.code yX8_weigh cX8_weigh 5 none ∈ gW := gW_of 812 rfl rfl
set_option maxRecDepth 20000 in
theorem kk_X8_addUp : Cond.code yX8_addUp cX8_addUp 2 none ∈ gW := gW_of 829 rfl rfl
set_option maxRecDepth 20000 in
theorem kk_X8_gatherWhere : Cond.code yX8_gatherWhere cX8_gatherWhere 5 (some (.object "WordOnPost$Big")) ∈ gW := gW_of 897 rfl rfl
set_option maxRecDepth 20000 in
theorem kk_X8_lostOf : Cond.code yX8_lostOf cX8_lostOf 7 (some .int) ∈ gW := gW_of 909 rfl rfl
set_option maxRecDepth 20000 in
theorem kk_X8_digNext : Cond.code yX8_digNext cX8_digNext 6 (some .int) ∈ gW := gW_of 917 rfl rfl
set_option maxRecDepth 20000 in
theorem kk_X8_differenceAt : Cond.code yX8_differenceAt cX8_differenceAt 7 (some .int) ∈ gW := gW_of 922 rfl rfl
set_option maxRecDepth 20000 in
theorem kk_X9_init : Cond.code yX9_init cX9_init 2 none ∈ gW := gW_of 117 rfl rfl
set_option maxRecDepth 20000 in
theorem kk_X9_place : Cond.code yX9_place cX9_place 2 (some .int) ∈ gW := gW_of 507 rfl rfl
set_option maxRecDepth 20000 in
theorem kk_X9_rain : Cond.code yX9_rain cX9_rain 3 (some .int) ∈ gW := gW_of 526 rfl rfl
set_option maxRecDepth 20000 in
theorem kk_X9_lot : Cond.code yX9_lot cX9_lot 2 (some .int) ∈ gW := gW_of 534 rfl rfl
set_option maxRecDepth 20000 in
theorem kk_X9_put : Cond.code yX9_put cX9_put 3 (some .int) ∈ gW := gW_of 538 rfl rfl
set_option maxRecDepth 20000 in
theorem kk_X9_kind : Cond.code yX9_kind cX9_kind 4 (some .int) ∈ gW := gW_of 542 rfl rfl
set_option maxRecDepth 20000 in
theorem kk_X9_prior : Cond.code yX9_prior cX9_prior 3 (some .int) ∈ gW := gW_of 549 rfl rfl
set_option maxRecDepth 20000 in
theorem kk_X9_type : Cond.code yX9_type cX9_type 7 (some .int) ∈ gW := gW_of 556 rfl rfl
set_option maxRecDepth 20000 in
theorem kk_X9_clear : Cond.code yX9_clear cX9_clear 2 (some .int) ∈ gW := gW_of 560 rfl rfl
set_option maxRecDepth 20000 in
theorem kk_X9_fault : Cond.code yX9_fault cX9_fault 2 (some .int) ∈ gW := gW_of 564 rfl rfl
set_option maxRecDepth 20000 in
theorem kk_X9_sign : Cond.code yX9_sign cX9_sign 6 (some .int) ∈ gW := gW_of 650 rfl rfl
set_option maxRecDepth 20000 in
theorem kk_X9_post : Cond.code yX9_post cX9_post 3 (some .int) ∈ gW := gW_of 662 rfl rfl
set_option maxRecDepth 20000 in
theorem kk_X9_teller : Cond.code yX9_teller cX9_teller 7 (some .int) ∈ gW := gW_of 666 rfl rfl
set_option maxRecDepth 20000 in
theorem kk_X9_at : Cond.code yX9_at cX9_at 3 (some .int) ∈ gW := gW_of 681 rfl rfl
set_option maxRecDepth 20000 in
theorem kk_X9_must : Cond.code yX9_must cX9_must 4 (some .int) ∈ gW := gW_of 693 rfl rfl
set_option maxRecDepth 20000 in
theorem kk_X9_hunger : Cond.code yX9_hunger cX9_hunger 2 (some .int) ∈ gW := gW_of 709 rfl rfl
set_option maxRecDepth 20000 in
theorem kk_X9_odds : Cond.code yX9_odds cX9_odds 3 (some .int) ∈ gW := gW_of 721 rfl rfl
set_option maxRecDepth 20000 in
theorem kk_X9_all : Cond.code yX9_all cX9_all 2 (some .int) ∈ gW := gW_of 889 rfl rfl
set_option maxRecDepth 20000 in
theorem kk_X9_where : Cond.code yX9_where cX9_where 4 (some .int) ∈ gW := gW_of 893 rfl rfl
set_option maxRecDepth 20000 in
theorem kk_X9_so : Cond.code yX9_so cX9_so 3 (some .int) ∈ gW := gW_of 901 rfl rfl
set_option maxRecDepth 20000 in
theorem kk_X9_lost : Cond.code yX9_lost cX9_lost 2 (some .int) ∈ gW := gW_of 905 rfl rfl
set_option maxRecDepth 20000 in
theorem kk_X9_next : Cond.code yX9_next cX9_next 1 (some .int) ∈ gW := gW_of 913 rfl rfl
set_option maxRecDepth 20000 in
theorem kk_X9_fed : Cond.code yX9_fed cX9_fed 3 (some .int) ∈ gW := gW_of 929 rfl rfl
set_option maxRecDepth 20000 in
theorem kk_X9_dry : Cond.code yX9_dry cX9_dry 8 (some .int) ∈ gW := gW_of 934 rfl rfl
set_option maxRecDepth 20000 in
theorem kk_X9_many : Cond.code yX9_many cX9_many 8 (some .int) ∈ gW := gW_of 942 rfl rfl
set_option maxRecDepth 20000 in
theorem kk_X9_stone : Cond.code yX9_stone cX9_stone 10 (some .int) ∈ gW := gW_of 947 rfl rfl
set_option maxRecDepth 20000 in
theorem kk_X9_days : Cond.code yX9_days cX9_days 4 (some .int) ∈ gW := gW_of 955 rfl rfl
set_option maxRecDepth 20000 in
theorem kk_X9_storm : Cond.code yX9_storm cX9_storm 4 (some .int) ∈ gW := gW_of 959 rfl rfl
set_option maxRecDepth 20000 in
theorem kk_X9_sails : Cond.code yX9_sails cX9_sails 4 (some .int) ∈ gW := gW_of 963 rfl rfl
set_option maxRecDepth 20000 in
theorem kk_X9_back : Cond.code yX9_back cX9_back 8 (some .int) ∈ gW := gW_of 983 rfl rfl
set_option maxRecDepth 20000 in
theorem kk_X9_part : Cond.code yX9_part cX9_part 2 (some .int) ∈ gW := gW_of 987 rfl rfl
set_option maxRecDepth 20000 in
theorem kk_X9_limb : Cond.code yX9_limb cX9_limb 4 (some .int) ∈ gW := gW_of 995 rfl rfl
set_option maxRecDepth 20000 in
theorem kk_X9_image : Cond.code yX9_image cX9_image 2 (some .int) ∈ gW := gW_of 1000 rfl rfl
set_option maxRecDepth 20000 in
theorem kk_X9_from : Cond.code yX9_from cX9_from 2 (some .int) ∈ gW := gW_of 1016 rfl rfl
set_option maxRecDepth 20000 in
theorem kk_X9_status : Cond.code yX9_status cX9_status 2 (some .int) ∈ gW := gW_of 1020 rfl rfl
set_option maxRecDepth 20000 in
theorem kk_X9_count : Cond.code yX9_count cX9_count 2 (some .int) ∈ gW := gW_of 1024 rfl rfl
set_option maxRecDepth 20000 in
theorem kk_X9_digest : Cond.code yX9_digest cX9_digest 4 (some .long) ∈ gW := gW_of 1032 rfl rfl
set_option maxRecDepth 20000 in
theorem kk_X9_bad : Cond.code yX9_bad cX9_bad 1 (some .int) ∈ gW := gW_of 514 rfl rfl
set_option maxRecDepth 20000 in
theorem kk_X9_worse : Cond.code yX9_worse cX9_worse 1 (some .int) ∈ gW := gW_of 938 rfl rfl
set_option maxRecDepth 20000 in
theorem kk_X9_no : Cond.code yX9_no cX9_no 1 (some .int) ∈ gW := gW_of 689 rfl rfl
set_option maxRecDepth 20000 in
theorem kk_X9_full : Cond.code yX9_full cX9_full 1 (some .int) ∈ gW := gW_of 518 rfl rfl
set_option maxRecDepth 20000 in
theorem kk_X9_outside : Cond.code yX9_outside cX9_outside 3 (some .boolean) ∈ gW := gW_of 510 rfl rfl
set_option maxRecDepth 20000 in
theorem kk_X9_noPlace : Cond.code yX9_noPlace cX9_noPlace 2 (some .boolean) ∈ gW := gW_of 654 rfl rfl
set_option maxRecDepth 20000 in
theorem kk_X9_noLot : Cond.code yX9_noLot cX9_noLot 2 (some .boolean) ∈ gW := gW_of 670 rfl rfl
set_option maxRecDepth 20000 in
theorem kk_X9_noWhere : Cond.code yX9_noWhere cX9_noWhere 2 (some .boolean) ∈ gW := gW_of 677 rfl rfl
set_option maxRecDepth 20000 in
theorem kk_X9_noStory : Cond.code yX9_noStory cX9_noStory 1 (some .boolean) ∈ gW := gW_of 552 rfl rfl
set_option maxRecDepth 20000 in
theorem kk_X9_noKind : Cond.code yX9_noKind cX9_noKind 1 (some .boolean) ∈ gW := gW_of 545 rfl rfl
set_option maxRecDepth 20000 in
theorem kk_X9_noMonth : Cond.code yX9_noMonth cX9_noMonth 1 (some .boolean) ∈ gW := gW_of 673 rfl rfl
set_option maxRecDepth 20000 in
theorem kk_X9_changed : Cond.code yX9_changed cX9_changed 1 none ∈ gW := gW_of 522 rfl rfl
set_option maxRecDepth 20000 in
theorem kk_X9_exchange : Cond.code yX9_exchange cX9_exchange 5 (some .int) ∈ gW := gW_of 530 rfl rfl
set_option maxRecDepth 20000 in
theorem kk_X9_hasFault : Cond.code yX9_hasFault cX9_hasFault 2 (some .boolean) ∈ gW := gW_of 685 rfl rfl
set_option maxRecDepth 20000 in
theorem kk_X9_noWorlds : Cond.code yX9_noWorlds cX9_noWorlds 1 (some .boolean) ∈ gW := gW_of 725 rfl rfl
set_option maxRecDepth 20000 in
theorem kk_X9_answerShare : Cond.code yX9_answerShare cX9_answerShare 2 (some .int) ∈ gW := gW_of 844 rfl rfl
set_option maxRecDepth 20000 in
theorem kk_X9_partOf : Cond.code yX9_partOf cX9_partOf 2 (some .int) ∈ gW := gW_of 991 rfl rfl
set_option maxRecDepth 20000 in
theorem kk_X9_rightLetters : Cond.code yX9_rightLetters cX9_rightLetters 6 (some .long) ∈ gW := gW_of 950 rfl rfl
set_option maxRecDepth 20000 in
theorem kk_X9_digestRow : Cond.code yX9_digestRow cX9_digestRow 7 (some .long) ∈ gW := gW_of 1042 rfl rfl
set_option maxRecDepth 20000 in
theorem kk_X10_init : Cond.code yX10_init cX10_init 2 none ∈ gW := gW_of 1052 rfl rfl
set_option maxRecDepth 20000 in
theorem kk_X10_in : Cond.code yX10_in cX10_in 6 (some .boolean) ∈ gW := gW_of 1131 rfl rfl
set_option maxRecDepth 20000 in
theorem kk_X10_bad : Cond.code yX10_bad cX10_bad 2 (some .int) ∈ gW := gW_of 1135 rfl rfl
set_option maxRecDepth 20000 in
theorem kk_X10_no : Cond.code yX10_no cX10_no 1 (some .int) ∈ gW := gW_of 1296 rfl rfl
set_option maxRecDepth 20000 in
theorem kk_X10_full : Cond.code yX10_full cX10_full 1 (some .int) ∈ gW := gW_of 1143 rfl rfl
set_option maxRecDepth 20000 in
theorem kk_X10_set : Cond.code yX10_set cX10_set 6 none ∈ gW := gW_of 1057 rfl rfl
set_option maxRecDepth 20000 in
theorem kk_X10_copy : Cond.code yX10_copy cX10_copy 4 none ∈ gW := gW_of 1384 rfl rfl
set_option maxRecDepth 20000 in
theorem kk_X10_trim : Cond.code yX10_trim cX10_trim 2 none ∈ gW := gW_of 1356 rfl rfl
set_option maxRecDepth 20000 in
theorem kk_X10_times : Cond.code yX10_times cX10_times 9 none ∈ gW := gW_of 1352 rfl rfl
set_option maxRecDepth 20000 in
theorem kk_X10_product : Cond.code yX10_product cX10_product 12 none ∈ gW := gW_of 1380 rfl rfl
set_option maxRecDepth 20000 in
theorem kk_X10_compare : Cond.code yX10_compare cX10_compare 6 (some .int) ∈ gW := gW_of 1409 rfl rfl
set_option maxRecDepth 20000 in
theorem kk_X10_add : Cond.code yX10_add cX10_add 9 none ∈ gW := gW_of 1376 rfl rfl
set_option maxRecDepth 20000 in
theorem kk_X10_take : Cond.code yX10_take cX10_take 8 none ∈ gW := gW_of 1413 rfl rfl
set_option maxRecDepth 20000 in
theorem kk_X10_halve : Cond.code yX10_halve cX10_halve 7 none ∈ gW := gW_of 1405 rfl rfl
set_option maxRecDepth 20000 in
theorem kk_X10_isEven : Cond.code yX10_isEven cX10_isEven 2 (some .boolean) ∈ gW := gW_of 1400 rfl rfl
set_option maxRecDepth 20000 in
theorem kk_X10_findDivisor : Cond.code yX10_findDivisor cX10_findDivisor 5 none ∈ gW := gW_of 1396 rfl rfl
set_option maxRecDepth 20000 in
theorem kk_X10_divide : Cond.code yX10_divide cX10_divide 7 none ∈ gW := gW_of 1417 rfl rfl
set_option maxRecDepth 20000 in
theorem kk_X10_addOne : Cond.code yX10_addOne cX10_addOne 1 none ∈ gW := gW_of 1421 rfl rfl
set_option maxRecDepth 20000 in
theorem kk_X10_tell : Cond.code yX10_tell cX10_tell 4 none ∈ gW := gW_of 1392 rfl rfl
set_option maxRecDepth 20000 in
theorem kk_X10_tells : Cond.code yX10_tells cX10_tells 5 (some .int) ∈ gW := gW_of 1474 rfl rfl
set_option maxRecDepth 20000 in
theorem kk_X10_places : Cond.code yX10_places cX10_places 1 (some .int) ∈ gW := gW_of 1139 rfl rfl
set_option maxRecDepth 20000 in
theorem kk_X10_lots : Cond.code yX10_lots cX10_lots 1 (some .int) ∈ gW := gW_of 1157 rfl rfl
set_option maxRecDepth 20000 in
theorem kk_X10_signs : Cond.code yX10_signs cX10_signs 1 (some .int) ∈ gW := gW_of 1256 rfl rfl
set_option maxRecDepth 20000 in
theorem kk_X10_tellers : Cond.code yX10_tellers cX10_tellers 1 (some .int) ∈ gW := gW_of 1280 rfl rfl
set_option maxRecDepth 20000 in
theorem kk_X10_isPlace : Cond.code yX10_isPlace cX10_isPlace 2 (some .boolean) ∈ gW := gW_of 1239 rfl rfl
set_option maxRecDepth 20000 in
theorem kk_X10_isLot : Cond.code yX10_isLot cX10_isLot 2 (some .boolean) ∈ gW := gW_of 1269 rfl rfl
set_option maxRecDepth 20000 in
theorem kk_X10_isFour : Cond.code yX10_isFour cX10_isFour 1 (some .boolean) ∈ gW := gW_of 1168 rfl rfl
set_option maxRecDepth 20000 in
theorem kk_X10_isMonth : Cond.code yX10_isMonth cX10_isMonth 1 (some .boolean) ∈ gW := gW_of 1272 rfl rfl
set_option maxRecDepth 20000 in
theorem kk_X10_place : Cond.code yX10_place cX10_place 4 (some .int) ∈ gW := gW_of 1127 rfl rfl
set_option maxRecDepth 20000 in
theorem kk_X10_rain : Cond.code yX10_rain cX10_rain 4 (some .int) ∈ gW := gW_of 1147 rfl rfl
set_option maxRecDepth 20000 in
theorem kk_X10_lot : Cond.code yX10_lot cX10_lot 2 (some .int) ∈ gW := gW_of 1152 rfl rfl
set_option maxRecDepth 20000 in
theorem kk_X10_put : Cond.code yX10_put cX10_put 4 (some .int) ∈ gW := gW_of 1161 rfl rfl
set_option maxRecDepth 20000 in
theorem kk_X10_kind : Cond.code yX10_kind cX10_kind 6 (some .int) ∈ gW := gW_of 1165 rfl rfl
set_option maxRecDepth 20000 in
theorem kk_X10_prior : Cond.code yX10_prior cX10_prior 4 (some .int) ∈ gW := gW_of 1174 rfl rfl
set_option maxRecDepth 20000 in
theorem kk_X10_textLong : Cond.code yX10_textLong cX10_textLong 2 (some .int) ∈ gW := gW_of 1183 rfl rfl
set_option maxRecDepth 20000 in
theorem kk_X10_byteAt : Cond.code yX10_byteAt cX10_byteAt 3 (some .int) ∈ gW := gW_of 1208 rfl rfl
set_option maxRecDepth 20000 in
theorem kk_X10_type : Cond.code yX10_type cX10_type 6 (some .int) ∈ gW := gW_of 1178 rfl rfl
set_option maxRecDepth 20000 in
theorem kk_X10_clear : Cond.code yX10_clear cX10_clear 3 (some .int) ∈ gW := gW_of 1188 rfl rfl
set_option maxRecDepth 20000 in
theorem kk_X10_isSmall : Cond.code yX10_isSmall cX10_isSmall 1 (some .boolean) ∈ gW := gW_of 1211 rfl rfl
set_option maxRecDepth 20000 in
theorem kk_X10_isFigure : Cond.code yX10_isFigure cX10_isFigure 1 (some .boolean) ∈ gW := gW_of 1216 rfl rfl
set_option maxRecDepth 20000 in
theorem kk_X10_look : Cond.code yX10_look cX10_look 5 none ∈ gW := gW_of 1204 rfl rfl
set_option maxRecDepth 20000 in
theorem kk_X10_goOn : Cond.code yX10_goOn cX10_goOn 1 none ∈ gW := gW_of 1230 rfl rfl
set_option maxRecDepth 20000 in
theorem kk_X10_isWord : Cond.code yX10_isWord cX10_isWord 9 (some .boolean) ∈ gW := gW_of 1226 rfl rfl
set_option maxRecDepth 20000 in
theorem kk_X10_layFrom : Cond.code yX10_layFrom cX10_layFrom 4 none ∈ gW := gW_of 1200 rfl rfl
set_option maxRecDepth 20000 in
theorem kk_X10_stops : Cond.code yX10_stops cX10_stops 1 (some .boolean) ∈ gW := gW_of 1243 rfl rfl
set_option maxRecDepth 20000 in
theorem kk_X10_takesMonth : Cond.code yX10_takesMonth cX10_takesMonth 1 (some .boolean) ∈ gW := gW_of 1234 rfl rfl
set_option maxRecDepth 20000 in
theorem kk_X10_readItem : Cond.code yX10_readItem cX10_readItem 4 (some .boolean) ∈ gW := gW_of 1222 rfl rfl
set_option maxRecDepth 20000 in
theorem kk_X10_readsStory : Cond.code yX10_readsStory cX10_readsStory 3 (some .boolean) ∈ gW := gW_of 1196 rfl rfl
set_option maxRecDepth 20000 in
theorem kk_X10_fault : Cond.code yX10_fault cX10_fault 2 (some .int) ∈ gW := gW_of 1192 rfl rfl
set_option maxRecDepth 20000 in
theorem kk_X10_readAll : Cond.code yX10_readAll cX10_readAll 2 none ∈ gW := gW_of 1292 rfl rfl
set_option maxRecDepth 20000 in
theorem kk_X10_sign : Cond.code yX10_sign cX10_sign 6 (some .int) ∈ gW := gW_of 1247 rfl rfl
set_option maxRecDepth 20000 in
theorem kk_X10_isSigned : Cond.code yX10_isSigned cX10_isSigned 5 (some .boolean) ∈ gW := gW_of 1252 rfl rfl
set_option maxRecDepth 20000 in
theorem kk_X10_post : Cond.code yX10_post cX10_post 3 (some .int) ∈ gW := gW_of 1260 rfl rfl
set_option maxRecDepth 20000 in
theorem kk_X10_isWhere : Cond.code yX10_isWhere cX10_isWhere 2 (some .boolean) ∈ gW := gW_of 1276 rfl rfl
set_option maxRecDepth 20000 in
theorem kk_X10_teller : Cond.code yX10_teller cX10_teller 7 (some .int) ∈ gW := gW_of 1264 rfl rfl
set_option maxRecDepth 20000 in
theorem kk_X10_isHeard : Cond.code yX10_isHeard cX10_isHeard 4 (some .boolean) ∈ gW := gW_of 1364 rfl rfl
set_option maxRecDepth 20000 in
theorem kk_X10_whereOf : Cond.code yX10_whereOf cX10_whereOf 3 (some .int) ∈ gW := gW_of 1308 rfl rfl
set_option maxRecDepth 20000 in
theorem kk_X10_leftOf : Cond.code yX10_leftOf cX10_leftOf 6 (some .int) ∈ gW := gW_of 1304 rfl rfl
set_option maxRecDepth 20000 in
theorem kk_X10_fedOf : Cond.code yX10_fedOf cX10_fedOf 3 (some .int) ∈ gW := gW_of 1324 rfl rfl
set_option maxRecDepth 20000 in
theorem kk_X10_isHungry : Cond.code yX10_isHungry cX10_isHungry 7 (some .boolean) ∈ gW := gW_of 1320 rfl rfl
set_option maxRecDepth 20000 in
theorem kk_X10_hungerOf : Cond.code yX10_hungerOf cX10_hungerOf 4 (some .int) ∈ gW := gW_of 1316 rfl rfl
set_option maxRecDepth 20000 in
theorem kk_X10_timesAll : Cond.code yX10_timesAll cX10_timesAll 6 none ∈ gW := gW_of 1360 rfl rfl
set_option maxRecDepth 20000 in
theorem kk_X10_findSign : Cond.code yX10_findSign cX10_findSign 9 none ∈ gW := gW_of 1372 rfl rfl
set_option maxRecDepth 20000 in
theorem kk_X10_isSaidSo : Cond.code yX10_isSaidSo cX10_isSaidSo 2 (some .boolean) ∈ gW := gW_of 1368 rfl rfl
set_option maxRecDepth 20000 in
theorem kk_X10_weigh : Cond.code yX10_weigh cX10_weigh 4 none ∈ gW := gW_of 1348 rfl rfl
set_option maxRecDepth 20000 in
theorem kk_X10_worlds : Cond.code yX10_worlds cX10_worlds 3 (some .int) ∈ gW := gW_of 1340 rfl rfl
set_option maxRecDepth 20000 in
theorem kk_X10_laysWorld : Cond.code yX10_laysWorld cX10_laysWorld 5 (some .boolean) ∈ gW := gW_of 1344 rfl rfl
set_option maxRecDepth 20000 in
theorem kk_X10_holds : Cond.code yX10_holds cX10_holds 7 (some .boolean) ∈ gW := gW_of 1388 rfl rfl
set_option maxRecDepth 20000 in
theorem kk_X10_sumsUp : Cond.code yX10_sumsUp cX10_sumsUp 6 (some .boolean) ∈ gW := gW_of 1336 rfl rfl
set_option maxRecDepth 20000 in
theorem kk_X10_tellsShare : Cond.code yX10_tellsShare cX10_tellsShare 5 (some .int) ∈ gW := gW_of 1332 rfl rfl
set_option maxRecDepth 20000 in
theorem kk_X10_laysOne : Cond.code yX10_laysOne cX10_laysOne 3 (some .boolean) ∈ gW := gW_of 1288 rfl rfl
set_option maxRecDepth 20000 in
theorem kk_X10_at : Cond.code yX10_at cX10_at 3 (some .int) ∈ gW := gW_of 1284 rfl rfl
set_option maxRecDepth 20000 in
theorem kk_X10_must : Cond.code yX10_must cX10_must 4 (some .int) ∈ gW := gW_of 1300 rfl rfl
set_option maxRecDepth 20000 in
theorem kk_X10_hunger : Cond.code yX10_hunger cX10_hunger 2 (some .int) ∈ gW := gW_of 1312 rfl rfl
set_option maxRecDepth 20000 in
theorem kk_X10_odds : Cond.code yX10_odds cX10_odds 3 (some .int) ∈ gW := gW_of 1328 rfl rfl
set_option maxRecDepth 20000 in
theorem kk_X10_all : Cond.code yX10_all cX10_all 2 (some .int) ∈ gW := gW_of 1425 rfl rfl
set_option maxRecDepth 20000 in
theorem kk_X10_where : Cond.code yX10_where cX10_where 4 (some .int) ∈ gW := gW_of 1429 rfl rfl
set_option maxRecDepth 20000 in
theorem kk_X10_so : Cond.code yX10_so cX10_so 2 (some .int) ∈ gW := gW_of 1433 rfl rfl
set_option maxRecDepth 20000 in
theorem kk_X10_lost : Cond.code yX10_lost cX10_lost 2 (some .int) ∈ gW := gW_of 1437 rfl rfl
set_option maxRecDepth 20000 in
theorem kk_X10_next : Cond.code yX10_next cX10_next 6 (some .int) ∈ gW := gW_of 1441 rfl rfl
set_option maxRecDepth 20000 in
theorem kk_X10_differs : Cond.code yX10_differs cX10_differs 7 (some .int) ∈ gW := gW_of 1445 rfl rfl
set_option maxRecDepth 20000 in
theorem kk_X10_isYear : Cond.code yX10_isYear cX10_isYear 1 (some .boolean) ∈ gW := gW_of 1452 rfl rfl
set_option maxRecDepth 20000 in
theorem kk_X10_fed : Cond.code yX10_fed cX10_fed 3 (some .int) ∈ gW := gW_of 1449 rfl rfl
set_option maxRecDepth 20000 in
theorem kk_X10_dry : Cond.code yX10_dry cX10_dry 8 (some .int) ∈ gW := gW_of 1456 rfl rfl
set_option maxRecDepth 20000 in
theorem kk_X10_many : Cond.code yX10_many cX10_many 8 (some .int) ∈ gW := gW_of 1460 rfl rfl
set_option maxRecDepth 20000 in
theorem kk_X10_power : Cond.code yX10_power cX10_power 6 (some .long) ∈ gW := gW_of 1470 rfl rfl
set_option maxRecDepth 20000 in
theorem kk_X10_stone : Cond.code yX10_stone cX10_stone 10 (some .int) ∈ gW := gW_of 1466 rfl rfl
set_option maxRecDepth 20000 in
theorem kk_X10_days : Cond.code yX10_days cX10_days 5 (some .int) ∈ gW := gW_of 1478 rfl rfl
set_option maxRecDepth 20000 in
theorem kk_X10_isDay : Cond.code yX10_isDay cX10_isDay 1 (some .boolean) ∈ gW := gW_of 1485 rfl rfl
set_option maxRecDepth 20000 in
theorem kk_X10_storm : Cond.code yX10_storm cX10_storm 3 (some .int) ∈ gW := gW_of 1482 rfl rfl
set_option maxRecDepth 20000 in
theorem kk_X10_dayBehind : Cond.code yX10_dayBehind cX10_dayBehind 5 (some .int) ∈ gW := gW_of 1498 rfl rfl
set_option maxRecDepth 20000 in
theorem kk_X10_sailsTo : Cond.code yX10_sailsTo cX10_sailsTo 9 (some .int) ∈ gW := gW_of 1494 rfl rfl
set_option maxRecDepth 20000 in
theorem kk_X10_sails : Cond.code yX10_sails cX10_sails 4 (some .int) ∈ gW := gW_of 1490 rfl rfl
set_option maxRecDepth 20000 in
theorem kk_X10_back : Cond.code yX10_back cX10_back 7 (some .int) ∈ gW := gW_of 1502 rfl rfl
set_option maxRecDepth 20000 in
theorem kk_X10_part : Cond.code yX10_part cX10_part 2 (some .int) ∈ gW := gW_of 1506 rfl rfl
set_option maxRecDepth 20000 in
theorem kk_X10_limb : Cond.code yX10_limb cX10_limb 3 (some .int) ∈ gW := gW_of 1510 rfl rfl
set_option maxRecDepth 20000 in
theorem kk_X10_image : Cond.code yX10_image cX10_image 3 (some .int) ∈ gW := gW_of 1514 rfl rfl
set_option maxRecDepth 20000 in
theorem kk_X10_from : Cond.code yX10_from cX10_from 3 (some .int) ∈ gW := gW_of 1518 rfl rfl
set_option maxRecDepth 20000 in
theorem kk_X10_status : Cond.code yX10_status cX10_status 2 (some .int) ∈ gW := gW_of 1522 rfl rfl
set_option maxRecDepth 20000 in
theorem kk_X10_counted : Cond.code yX10_counted cX10_counted 2 (some .int) ∈ gW := gW_of 1531 rfl rfl
set_option maxRecDepth 20000 in
theorem kk_X10_count : Cond.code yX10_count cX10_count 2 (some .int) ∈ gW := gW_of 1526 rfl rfl
set_option maxRecDepth 20000 in
theorem kk_X10_sums : Cond.code yX10_sums cX10_sums 8 (some .long) ∈ gW := gW_of 1541 rfl rfl
set_option maxRecDepth 20000 in
theorem kk_X10_digest : Cond.code yX10_digest cX10_digest 5 (some .long) ∈ gW := gW_of 1535 rfl rfl
set_option maxRecDepth 20000 in
theorem kk_J9_max_7cf53 : Cond.code yJ9_max_7cf53 cJ9_max_7cf53 2 (some .int) ∈ gW := gW_of 350 rfl rfl
set_option maxRecDepth 20000 in
theorem kk_J9_max_f86c9 : Cond.code yJ9_max_f86c9 cJ9_max_f86c9 4 (some .long) ∈ gW := gW_of 877 rfl rfl
set_option maxRecDepth 20000 in
theorem kk_J9_min_7cf53 : Cond.code yJ9_min_7cf53 cJ9_min_7cf53 2 (some .int) ∈ gW := gW_of 705 rfl rfl
set_option maxRecDepth 20000 in
theorem kk_J7_fill_53178 : Cond.code yJ7_fill_53178 cJ7_fill_53178 4 none ∈ gW := gW_of 143 rfl rfl
theorem inX0 : ∀ w ∈ wsX00, w ∈ gW := by
  intro w h
  obtain ⟨k, hk, rfl⟩ := List.mem_map.mp h
  have hk := List.mem_range.mp hk
  match k, hk with
  | 0, _ => exact gW_of 355 (by decide +kernel) (by decide +kernel)
  | 1, _ => exact gW_of 357 (by decide +kernel) (by decide +kernel)
  | k + 2, hk => exact absurd hk (by omega)
theorem inX1 : ∀ w ∈ wsX10, w ∈ gW := by
  intro w h
  obtain ⟨k, hk, rfl⟩ := List.mem_map.mp h
  have hk := List.mem_range.mp hk
  match k, hk with
  | 0, _ => exact gW_of 364 (by decide +kernel) (by decide +kernel)
  | 1, _ => exact gW_of 366 (by decide +kernel) (by decide +kernel)
  | 2, _ => exact gW_of 368 (by decide +kernel) (by decide +kernel)
  | 3, _ => exact gW_of 370 (by decide +kernel) (by decide +kernel)
  | k + 4, hk => exact absurd hk (by omega)
theorem inX2 : ∀ w ∈ wsX20, w ∈ gW := by
  intro w h
  obtain ⟨k, hk, rfl⟩ := List.mem_map.mp h
  have hk := List.mem_range.mp hk
  match k, hk with
  | 0, _ => exact gW_of 439 (by decide +kernel) (by decide +kernel)
  | 1, _ => exact gW_of 441 (by decide +kernel) (by decide +kernel)
  | 2, _ => exact gW_of 443 (by decide +kernel) (by decide +kernel)
  | 3, _ => exact gW_of 445 (by decide +kernel) (by decide +kernel)
  | 4, _ => exact gW_of 447 (by decide +kernel) (by decide +kernel)
  | k + 5, hk => exact absurd hk (by omega)
theorem inX3 : ∀ w ∈ wsX30, w ∈ gW := by
  intro w h
  obtain ⟨k, hk, rfl⟩ := List.mem_map.mp h
  have hk := List.mem_range.mp hk
  match k, hk with
  | 0, _ => exact gW_of 314 (by decide +kernel) (by decide +kernel)
  | 1, _ => exact gW_of 316 (by decide +kernel) (by decide +kernel)
  | 2, _ => exact gW_of 318 (by decide +kernel) (by decide +kernel)
  | 3, _ => exact gW_of 320 (by decide +kernel) (by decide +kernel)
  | 4, _ => exact gW_of 322 (by decide +kernel) (by decide +kernel)
  | 5, _ => exact gW_of 324 (by decide +kernel) (by decide +kernel)
  | 6, _ => exact gW_of 326 (by decide +kernel) (by decide +kernel)
  | 7, _ => exact gW_of 328 (by decide +kernel) (by decide +kernel)
  | 8, _ => exact gW_of 330 (by decide +kernel) (by decide +kernel)
  | 9, _ => exact gW_of 332 (by decide +kernel) (by decide +kernel)
  | k + 10, hk => exact absurd hk (by omega)
theorem inX4 : ∀ w ∈ wsX40, w ∈ gW := by
  intro w h
  obtain ⟨k, hk, rfl⟩ := List.mem_map.mp h
  have hk := List.mem_range.mp hk
  match k, hk with
  | 0, _ => exact gW_of 459 (by decide +kernel) (by decide +kernel)
  | 1, _ => exact gW_of 461 (by decide +kernel) (by decide +kernel)
  | k + 2, hk => exact absurd hk (by omega)
theorem inX5 : ∀ w ∈ wsX50, w ∈ gW := by
  intro w h
  obtain ⟨k, hk, rfl⟩ := List.mem_map.mp h
  have hk := List.mem_range.mp hk
  match k, hk with
  | 0, _ => exact gW_of 199 (by decide +kernel) (by decide +kernel)
  | 1, _ => exact gW_of 201 (by decide +kernel) (by decide +kernel)
  | 2, _ => exact gW_of 203 (by decide +kernel) (by decide +kernel)
  | 3, _ => exact gW_of 205 (by decide +kernel) (by decide +kernel)
  | 4, _ => exact gW_of 207 (by decide +kernel) (by decide +kernel)
  | 5, _ => exact gW_of 209 (by decide +kernel) (by decide +kernel)
  | 6, _ => exact gW_of 211 (by decide +kernel) (by decide +kernel)
  | 7, _ => exact gW_of 213 (by decide +kernel) (by decide +kernel)
  | 8, _ => exact gW_of 215 (by decide +kernel) (by decide +kernel)
  | 9, _ => exact gW_of 217 (by decide +kernel) (by decide +kernel)
  | 10, _ => exact gW_of 219 (by decide +kernel) (by decide +kernel)
  | 11, _ => exact gW_of 221 (by decide +kernel) (by decide +kernel)
  | 12, _ => exact gW_of 223 (by decide +kernel) (by decide +kernel)
  | 13, _ => exact gW_of 225 (by decide +kernel) (by decide +kernel)
  | 14, _ => exact gW_of 227 (by decide +kernel) (by decide +kernel)
  | 15, _ => exact gW_of 229 (by decide +kernel) (by decide +kernel)
  | 16, _ => exact gW_of 231 (by decide +kernel) (by decide +kernel)
  | k + 17, hk => exact absurd hk (by omega)
theorem inX6 : ∀ w ∈ wsX60, w ∈ gW := by
  intro w h
  obtain ⟨k, hk, rfl⟩ := List.mem_map.mp h
  have hk := List.mem_range.mp hk
  match k, hk with
  | 0, _ => exact gW_of 281 (by decide +kernel) (by decide +kernel)
  | 1, _ => exact gW_of 283 (by decide +kernel) (by decide +kernel)
  | 2, _ => exact gW_of 285 (by decide +kernel) (by decide +kernel)
  | 3, _ => exact gW_of 287 (by decide +kernel) (by decide +kernel)
  | 4, _ => exact gW_of 289 (by decide +kernel) (by decide +kernel)
  | 5, _ => exact gW_of 291 (by decide +kernel) (by decide +kernel)
  | 6, _ => exact gW_of 293 (by decide +kernel) (by decide +kernel)
  | 7, _ => exact gW_of 295 (by decide +kernel) (by decide +kernel)
  | k + 8, hk => exact absurd hk (by omega)
theorem inX7 : ∀ w ∈ wsX70, w ∈ gW := by
  intro w h
  obtain ⟨k, hk, rfl⟩ := List.mem_map.mp h
  have hk := List.mem_range.mp hk
  match k, hk with
  | 0, _ => exact gW_of 246 (by decide +kernel) (by decide +kernel)
  | 1, _ => exact gW_of 248 (by decide +kernel) (by decide +kernel)
  | 2, _ => exact gW_of 250 (by decide +kernel) (by decide +kernel)
  | 3, _ => exact gW_of 252 (by decide +kernel) (by decide +kernel)
  | 4, _ => exact gW_of 254 (by decide +kernel) (by decide +kernel)
  | k + 5, hk => exact absurd hk (by omega)
theorem inX8 : ∀ w ∈ wsX80, w ∈ gW := by
  intro w h
  obtain ⟨k, hk, rfl⟩ := List.mem_map.mp h
  have hk := List.mem_range.mp hk
  match k, hk with
  | 0, _ => exact gW_of 392 (by decide +kernel) (by decide +kernel)
  | 1, _ => exact gW_of 394 (by decide +kernel) (by decide +kernel)
  | 2, _ => exact gW_of 396 (by decide +kernel) (by decide +kernel)
  | 3, _ => exact gW_of 398 (by decide +kernel) (by decide +kernel)
  | 4, _ => exact gW_of 400 (by decide +kernel) (by decide +kernel)
  | 5, _ => exact gW_of 402 (by decide +kernel) (by decide +kernel)
  | 6, _ => exact gW_of 404 (by decide +kernel) (by decide +kernel)
  | 7, _ => exact gW_of 406 (by decide +kernel) (by decide +kernel)
  | 8, _ => exact gW_of 408 (by decide +kernel) (by decide +kernel)
  | 9, _ => exact gW_of 410 (by decide +kernel) (by decide +kernel)
  | 10, _ => exact gW_of 412 (by decide +kernel) (by decide +kernel)
  | 11, _ => exact gW_of 414 (by decide +kernel) (by decide +kernel)
  | k + 12, hk => exact absurd hk (by omega)
theorem inX9 : ∀ w ∈ wsX90, w ∈ gW := by
  intro w h
  obtain ⟨k, hk, rfl⟩ := List.mem_map.mp h
  have hk := List.mem_range.mp hk
  match k, hk with
  | 0, _ => exact gW_of 479 (by decide +kernel) (by decide +kernel)
  | 1, _ => exact gW_of 481 (by decide +kernel) (by decide +kernel)
  | 2, _ => exact gW_of 483 (by decide +kernel) (by decide +kernel)
  | 3, _ => exact gW_of 485 (by decide +kernel) (by decide +kernel)
  | 4, _ => exact gW_of 487 (by decide +kernel) (by decide +kernel)
  | 5, _ => exact gW_of 489 (by decide +kernel) (by decide +kernel)
  | 6, _ => exact gW_of 491 (by decide +kernel) (by decide +kernel)
  | 7, _ => exact gW_of 493 (by decide +kernel) (by decide +kernel)
  | 8, _ => exact gW_of 495 (by decide +kernel) (by decide +kernel)
  | 9, _ => exact gW_of 497 (by decide +kernel) (by decide +kernel)
  | 10, _ => exact gW_of 499 (by decide +kernel) (by decide +kernel)
  | 11, _ => exact gW_of 501 (by decide +kernel) (by decide +kernel)
  | k + 12, hk => exact absurd hk (by omega)
theorem inX10 : ∀ w ∈ wsX100, w ∈ gW := by
  intro w h
  obtain ⟨k, hk, rfl⟩ := List.mem_map.mp h
  have hk := List.mem_range.mp hk
  match k, hk with
  | 0, _ => exact gW_of 1080 (by decide +kernel) (by decide +kernel)
  | 1, _ => exact gW_of 1082 (by decide +kernel) (by decide +kernel)
  | 2, _ => exact gW_of 1084 (by decide +kernel) (by decide +kernel)
  | 3, _ => exact gW_of 1086 (by decide +kernel) (by decide +kernel)
  | 4, _ => exact gW_of 1088 (by decide +kernel) (by decide +kernel)
  | 5, _ => exact gW_of 1090 (by decide +kernel) (by decide +kernel)
  | 6, _ => exact gW_of 1092 (by decide +kernel) (by decide +kernel)
  | 7, _ => exact gW_of 1094 (by decide +kernel) (by decide +kernel)
  | 8, _ => exact gW_of 1096 (by decide +kernel) (by decide +kernel)
  | 9, _ => exact gW_of 1098 (by decide +kernel) (by decide +kernel)
  | 10, _ => exact gW_of 1100 (by decide +kernel) (by decide +kernel)
  | 11, _ => exact gW_of 1102 (by decide +kernel) (by decide +kernel)
  | 12, _ => exact gW_of 1104 (by decide +kernel) (by decide +kernel)
  | 13, _ => exact gW_of 1106 (by decide +kernel) (by decide +kernel)
  | 14, _ => exact gW_of 1108 (by decide +kernel) (by decide +kernel)
  | 15, _ => exact gW_of 1110 (by decide +kernel) (by decide +kernel)
  | 16, _ => exact gW_of 1112 (by decide +kernel) (by decide +kernel)
  | 17, _ => exact gW_of 1114 (by decide +kernel) (by decide +kernel)
  | 18, _ => exact gW_of 1116 (by decide +kernel) (by decide +kernel)
  | 19, _ => exact gW_of 1118 (by decide +kernel) (by decide +kernel)
  | 20, _ => exact gW_of 1120 (by decide +kernel) (by decide +kernel)
  | k + 21, hk => exact absurd hk (by omega)
