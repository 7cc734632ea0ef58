-- ===== PART A: goes FIRST, ahead of the names: the tables' words, and 'selects' of the private methods out of them =====
/-- a private method of a class that the tables say can be made, by its rows of tables_1 -/
def lw_okq (q : MethodName × Nat) : Prop := (q.1.cls ≠ "java/lang/invoke/MethodHandle" ∧ q.1.cls ≠ "java/lang/invoke/VarHandle") ∧ Cond.instantiable q.1.cls q.2 ∈ tables_1 ∧ Cond.privateMethod q.1 ∈ tables_1 ∧ Cond.instanceMethod q.1 ∈ tables_1
theorem lw_p0 : lw_okq (⟨"LeadBalls$Reader", "readWord", "()V"⟩, 12) := ⟨⟨by decide +kernel, by decide +kernel⟩, List.mem_of_getElem? (i := 44) (by decide +kernel), List.mem_of_getElem? (i := 404) (by decide +kernel), List.mem_of_getElem? (i := 405) (by decide +kernel)⟩
theorem lw_p1 : lw_okq (⟨"LeadBalls$Reader", "readNumber", "()V"⟩, 12) := ⟨⟨by decide +kernel, by decide +kernel⟩, List.mem_of_getElem? (i := 44) (by decide +kernel), List.mem_of_getElem? (i := 408) (by decide +kernel), List.mem_of_getElem? (i := 409) (by decide +kernel)⟩
theorem lw_p2 : lw_okq (⟨"LeadBalls$Reader", "isSign", "(I)Z"⟩, 12) := ⟨⟨by decide +kernel, by decide +kernel⟩, List.mem_of_getElem? (i := 44) (by decide +kernel), List.mem_of_getElem? (i := 412) (by decide +kernel), List.mem_of_getElem? (i := 413) (by decide +kernel)⟩
theorem lw_p3 : lw_okq (⟨"LeadBalls$Causes", "fewestFor", "(I)I"⟩, 8) := ⟨⟨by decide +kernel, by decide +kernel⟩, List.mem_of_getElem? (i := 157) (by decide +kernel), List.mem_of_getElem? (i := 437) (by decide +kernel), List.mem_of_getElem? (i := 438) (by decide +kernel)⟩
theorem lw_p4 : lw_okq (⟨"LeadBalls$Shed", "readLine", "(LLeadBalls$Reader;)Z"⟩, 4) := ⟨⟨by decide +kernel, by decide +kernel⟩, List.mem_of_getElem? (i := 151) (by decide +kernel), List.mem_of_getElem? (i := 444) (by decide +kernel), List.mem_of_getElem? (i := 445) (by decide +kernel)⟩
theorem lw_p5 : lw_okq (⟨"LeadBalls$Shed", "readSetting", "(LLeadBalls$Reader;I)Z"⟩, 4) := ⟨⟨by decide +kernel, by decide +kernel⟩, List.mem_of_getElem? (i := 151) (by decide +kernel), List.mem_of_getElem? (i := 448) (by decide +kernel), List.mem_of_getElem? (i := 449) (by decide +kernel)⟩
theorem lw_p6 : lw_okq (⟨"LeadBalls$Reader", "refuseAt", "(II)Z"⟩, 12) := ⟨⟨by decide +kernel, by decide +kernel⟩, List.mem_of_getElem? (i := 44) (by decide +kernel), List.mem_of_getElem? (i := 456) (by decide +kernel), List.mem_of_getElem? (i := 457) (by decide +kernel)⟩
theorem lw_p7 : lw_okq (⟨"LeadBalls$Shed", "readNearAndFar", "(LLeadBalls$Reader;)Z"⟩, 4) := ⟨⟨by decide +kernel, by decide +kernel⟩, List.mem_of_getElem? (i := 151) (by decide +kernel), List.mem_of_getElem? (i := 477) (by decide +kernel), List.mem_of_getElem? (i := 478) (by decide +kernel)⟩
theorem lw_p8 : lw_okq (⟨"LeadBalls$Houses", "readHouse", "(LLeadBalls$Reader;)Z"⟩, 7) := ⟨⟨by decide +kernel, by decide +kernel⟩, List.mem_of_getElem? (i := 215) (by decide +kernel), List.mem_of_getElem? (i := 512) (by decide +kernel), List.mem_of_getElem? (i := 513) (by decide +kernel)⟩
theorem lw_p9 : lw_okq (⟨"LeadBalls$Sum", "workAll", "()V"⟩, 12) := ⟨⟨by decide +kernel, by decide +kernel⟩, List.mem_of_getElem? (i := 244) (by decide +kernel), List.mem_of_getElem? (i := 532) (by decide +kernel), List.mem_of_getElem? (i := 533) (by decide +kernel)⟩
theorem lw_p10 : lw_okq (⟨"LeadBalls$Sum", "valueOf", "(I[I)I"⟩, 12) := ⟨⟨by decide +kernel, by decide +kernel⟩, List.mem_of_getElem? (i := 244) (by decide +kernel), List.mem_of_getElem? (i := 536) (by decide +kernel), List.mem_of_getElem? (i := 537) (by decide +kernel)⟩
theorem lw_p11 : lw_okq (⟨"LeadBalls$Sum", "readLine", "(LLeadBalls$Reader;)Z"⟩, 12) := ⟨⟨by decide +kernel, by decide +kernel⟩, List.mem_of_getElem? (i := 244) (by decide +kernel), List.mem_of_getElem? (i := 543) (by decide +kernel), List.mem_of_getElem? (i := 544) (by decide +kernel)⟩
theorem lw_p12 : lw_okq (⟨"LeadBalls$Sum", "readExpression", "(LLeadBalls$Reader;I)Z"⟩, 12) := ⟨⟨by decide +kernel, by decide +kernel⟩, List.mem_of_getElem? (i := 244) (by decide +kernel), List.mem_of_getElem? (i := 550) (by decide +kernel), List.mem_of_getElem? (i := 551) (by decide +kernel)⟩
theorem lw_p13 : lw_okq (⟨"LeadBalls$Sum", "readUnit", "(LLeadBalls$Reader;I)Z"⟩, 12) := ⟨⟨by decide +kernel, by decide +kernel⟩, List.mem_of_getElem? (i := 244) (by decide +kernel), List.mem_of_getElem? (i := 554) (by decide +kernel), List.mem_of_getElem? (i := 555) (by decide +kernel)⟩
theorem lw_p14 : lw_okq (⟨"LeadBalls$Sum", "addStep", "(II)V"⟩, 12) := ⟨⟨by decide +kernel, by decide +kernel⟩, List.mem_of_getElem? (i := 244) (by decide +kernel), List.mem_of_getElem? (i := 560) (by decide +kernel), List.mem_of_getElem? (i := 561) (by decide +kernel)⟩
theorem lw_p15 : lw_okq (⟨"LeadBalls$Sum", "addSignStep", "(I)V"⟩, 12) := ⟨⟨by decide +kernel, by decide +kernel⟩, List.mem_of_getElem? (i := 244) (by decide +kernel), List.mem_of_getElem? (i := 564) (by decide +kernel), List.mem_of_getElem? (i := 565) (by decide +kernel)⟩
def lw_privs_1 : List (MethodName × Nat) := [(⟨"LeadBalls$Reader", "readWord", "()V"⟩, 12), (⟨"LeadBalls$Reader", "readNumber", "()V"⟩, 12), (⟨"LeadBalls$Reader", "isSign", "(I)Z"⟩, 12), (⟨"LeadBalls$Causes", "fewestFor", "(I)I"⟩, 8), (⟨"LeadBalls$Shed", "readLine", "(LLeadBalls$Reader;)Z"⟩, 4), (⟨"LeadBalls$Shed", "readSetting", "(LLeadBalls$Reader;I)Z"⟩, 4), (⟨"LeadBalls$Reader", "refuseAt", "(II)Z"⟩, 12), (⟨"LeadBalls$Shed", "readNearAndFar", "(LLeadBalls$Reader;)Z"⟩, 4), (⟨"LeadBalls$Houses", "readHouse", "(LLeadBalls$Reader;)Z"⟩, 7), (⟨"LeadBalls$Sum", "workAll", "()V"⟩, 12), (⟨"LeadBalls$Sum", "valueOf", "(I[I)I"⟩, 12), (⟨"LeadBalls$Sum", "readLine", "(LLeadBalls$Reader;)Z"⟩, 12), (⟨"LeadBalls$Sum", "readExpression", "(LLeadBalls$Reader;I)Z"⟩, 12), (⟨"LeadBalls$Sum", "readUnit", "(LLeadBalls$Reader;I)Z"⟩, 12), (⟨"LeadBalls$Sum", "addStep", "(II)V"⟩, 12), (⟨"LeadBalls$Sum", "addSignStep", "(I)V"⟩, 12)]
theorem lw_r1 : ∀ q ∈ lw_privs_1, lw_okq q := List.forall_mem_cons.mpr ⟨lw_p0, List.forall_mem_cons.mpr ⟨lw_p1, List.forall_mem_cons.mpr ⟨lw_p2, List.forall_mem_cons.mpr ⟨lw_p3, List.forall_mem_cons.mpr ⟨lw_p4, List.forall_mem_cons.mpr ⟨lw_p5, List.forall_mem_cons.mpr ⟨lw_p6, List.forall_mem_cons.mpr ⟨lw_p7, List.forall_mem_cons.mpr ⟨lw_p8, List.forall_mem_cons.mpr ⟨lw_p9, List.forall_mem_cons.mpr ⟨lw_p10, List.forall_mem_cons.mpr ⟨lw_p11, List.forall_mem_cons.mpr ⟨lw_p12, List.forall_mem_cons.mpr ⟨lw_p13, List.forall_mem_cons.mpr ⟨lw_p14, List.forall_mem_cons.mpr ⟨lw_p15, fun _ h => absurd h List.not_mem_nil⟩⟩⟩⟩⟩⟩⟩⟩⟩⟩⟩⟩⟩⟩⟩⟩
theorem lw_p16 : lw_okq (⟨"LeadBalls$Fit", "gather", "(LLeadBalls$Readings;I)V"⟩, 5) := ⟨⟨by decide +kernel, by decide +kernel⟩, List.mem_of_getElem? (i := 322) (by decide +kernel), List.mem_of_getElem? (i := 663) (by decide +kernel), List.mem_of_getElem? (i := 664) (by decide +kernel)⟩
theorem lw_p17 : lw_okq (⟨"LeadBalls$Fit", "addRow", "()V"⟩, 5) := ⟨⟨by decide +kernel, by decide +kernel⟩, List.mem_of_getElem? (i := 322) (by decide +kernel), List.mem_of_getElem? (i := 675) (by decide +kernel), List.mem_of_getElem? (i := 676) (by decide +kernel)⟩
theorem lw_p18 : lw_okq (⟨"LeadBalls$Houses", "notLetting", "(I)I"⟩, 7) := ⟨⟨by decide +kernel, by decide +kernel⟩, List.mem_of_getElem? (i := 215) (by decide +kernel), List.mem_of_getElem? (i := 726) (by decide +kernel), List.mem_of_getElem? (i := 727) (by decide +kernel)⟩
theorem lw_p19 : lw_okq (⟨"LeadBalls$Houses", "join", "(II)V"⟩, 7) := ⟨⟨by decide +kernel, by decide +kernel⟩, List.mem_of_getElem? (i := 215) (by decide +kernel), List.mem_of_getElem? (i := 736) (by decide +kernel), List.mem_of_getElem? (i := 737) (by decide +kernel)⟩
theorem lw_p20 : lw_okq (⟨"LeadBallsModel", "plain", "()V"⟩, 72) := ⟨⟨by decide +kernel, by decide +kernel⟩, List.mem_of_getElem? (i := 795) (by decide +kernel), List.mem_of_getElem? (i := 801) (by decide +kernel), List.mem_of_getElem? (i := 802) (by decide +kernel)⟩
theorem lw_p21 : lw_okq (⟨"LeadBallsModel", "four", "(I)V"⟩, 72) := ⟨⟨by decide +kernel, by decide +kernel⟩, List.mem_of_getElem? (i := 795) (by decide +kernel), List.mem_of_getElem? (i := 1030) (by decide +kernel), List.mem_of_getElem? (i := 1031) (by decide +kernel)⟩
theorem lw_p22 : lw_okq (⟨"LeadBallsModel", "start", "(Z)V"⟩, 72) := ⟨⟨by decide +kernel, by decide +kernel⟩, List.mem_of_getElem? (i := 795) (by decide +kernel), List.mem_of_getElem? (i := 1042) (by decide +kernel), List.mem_of_getElem? (i := 1043) (by decide +kernel)⟩
theorem lw_p23 : lw_okq (⟨"LeadBallsModel", "token", "()V"⟩, 72) := ⟨⟨by decide +kernel, by decide +kernel⟩, List.mem_of_getElem? (i := 795) (by decide +kernel), List.mem_of_getElem? (i := 1046) (by decide +kernel), List.mem_of_getElem? (i := 1047) (by decide +kernel)⟩
theorem lw_p24 : lw_okq (⟨"LeadBallsModel", "here", "(I)I"⟩, 72) := ⟨⟨by decide +kernel, by decide +kernel⟩, List.mem_of_getElem? (i := 795) (by decide +kernel), List.mem_of_getElem? (i := 1050) (by decide +kernel), List.mem_of_getElem? (i := 1051) (by decide +kernel)⟩
theorem lw_p25 : lw_okq (⟨"LeadBallsModel", "isSign", "(I)Z"⟩, 72) := ⟨⟨by decide +kernel, by decide +kernel⟩, List.mem_of_getElem? (i := 795) (by decide +kernel), List.mem_of_getElem? (i := 1060) (by decide +kernel), List.mem_of_getElem? (i := 1061) (by decide +kernel)⟩
theorem lw_p26 : lw_okq (⟨"LeadBallsModel", "which", "()I"⟩, 72) := ⟨⟨by decide +kernel, by decide +kernel⟩, List.mem_of_getElem? (i := 795) (by decide +kernel), List.mem_of_getElem? (i := 1064) (by decide +kernel), List.mem_of_getElem? (i := 1065) (by decide +kernel)⟩
theorem lw_p27 : lw_okq (⟨"LeadBallsModel", "isWord", "(J)Z"⟩, 72) := ⟨⟨by decide +kernel, by decide +kernel⟩, List.mem_of_getElem? (i := 795) (by decide +kernel), List.mem_of_getElem? (i := 1069) (by decide +kernel), List.mem_of_getElem? (i := 1070) (by decide +kernel)⟩
theorem lw_p28 : lw_okq (⟨"LeadBallsModel", "readTold", "(I)V"⟩, 72) := ⟨⟨by decide +kernel, by decide +kernel⟩, List.mem_of_getElem? (i := 795) (by decide +kernel), List.mem_of_getElem? (i := 1081) (by decide +kernel), List.mem_of_getElem? (i := 1082) (by decide +kernel)⟩
theorem lw_p29 : lw_okq (⟨"LeadBallsModel", "signed", "(II)I"⟩, 72) := ⟨⟨by decide +kernel, by decide +kernel⟩, List.mem_of_getElem? (i := 795) (by decide +kernel), List.mem_of_getElem? (i := 1085) (by decide +kernel), List.mem_of_getElem? (i := 1086) (by decide +kernel)⟩
theorem lw_p30 : lw_okq (⟨"LeadBallsModel", "wrong", "(I)V"⟩, 72) := ⟨⟨by decide +kernel, by decide +kernel⟩, List.mem_of_getElem? (i := 795) (by decide +kernel), List.mem_of_getElem? (i := 1089) (by decide +kernel), List.mem_of_getElem? (i := 1090) (by decide +kernel)⟩
theorem lw_p31 : lw_okq (⟨"LeadBallsModel", "toldNumber", "(II)I"⟩, 72) := ⟨⟨by decide +kernel, by decide +kernel⟩, List.mem_of_getElem? (i := 795) (by decide +kernel), List.mem_of_getElem? (i := 1093) (by decide +kernel), List.mem_of_getElem? (i := 1094) (by decide +kernel)⟩
def lw_privs_2 : List (MethodName × Nat) := [(⟨"LeadBalls$Fit", "gather", "(LLeadBalls$Readings;I)V"⟩, 5), (⟨"LeadBalls$Fit", "addRow", "()V"⟩, 5), (⟨"LeadBalls$Houses", "notLetting", "(I)I"⟩, 7), (⟨"LeadBalls$Houses", "join", "(II)V"⟩, 7), (⟨"LeadBallsModel", "plain", "()V"⟩, 72), (⟨"LeadBallsModel", "four", "(I)V"⟩, 72), (⟨"LeadBallsModel", "start", "(Z)V"⟩, 72), (⟨"LeadBallsModel", "token", "()V"⟩, 72), (⟨"LeadBallsModel", "here", "(I)I"⟩, 72), (⟨"LeadBallsModel", "isSign", "(I)Z"⟩, 72), (⟨"LeadBallsModel", "which", "()I"⟩, 72), (⟨"LeadBallsModel", "isWord", "(J)Z"⟩, 72), (⟨"LeadBallsModel", "readTold", "(I)V"⟩, 72), (⟨"LeadBallsModel", "signed", "(II)I"⟩, 72), (⟨"LeadBallsModel", "wrong", "(I)V"⟩, 72), (⟨"LeadBallsModel", "toldNumber", "(II)I"⟩, 72)]
theorem lw_r2 : ∀ q ∈ lw_privs_2, lw_okq q := List.forall_mem_cons.mpr ⟨lw_p16, List.forall_mem_cons.mpr ⟨lw_p17, List.forall_mem_cons.mpr ⟨lw_p18, List.forall_mem_cons.mpr ⟨lw_p19, List.forall_mem_cons.mpr ⟨lw_p20, List.forall_mem_cons.mpr ⟨lw_p21, List.forall_mem_cons.mpr ⟨lw_p22, List.forall_mem_cons.mpr ⟨lw_p23, List.forall_mem_cons.mpr ⟨lw_p24, List.forall_mem_cons.mpr ⟨lw_p25, List.forall_mem_cons.mpr ⟨lw_p26, List.forall_mem_cons.mpr ⟨lw_p27, List.forall_mem_cons.mpr ⟨lw_p28, List.forall_mem_cons.mpr ⟨lw_p29, List.forall_mem_cons.mpr ⟨lw_p30, List.forall_mem_cons.mpr ⟨lw_p31, fun _ h => absurd h List.not_mem_nil⟩⟩⟩⟩⟩⟩⟩⟩⟩⟩⟩⟩⟩⟩⟩⟩
theorem lw_p32 : lw_okq (⟨"LeadBallsModel", "want", "(J)V"⟩, 72) := ⟨⟨by decide +kernel, by decide +kernel⟩, List.mem_of_getElem? (i := 795) (by decide +kernel), List.mem_of_getElem? (i := 1098) (by decide +kernel), List.mem_of_getElem? (i := 1099) (by decide +kernel)⟩
theorem lw_p33 : lw_okq (⟨"LeadBallsModel", "readCause", "()V"⟩, 72) := ⟨⟨by decide +kernel, by decide +kernel⟩, List.mem_of_getElem? (i := 795) (by decide +kernel), List.mem_of_getElem? (i := 1104) (by decide +kernel), List.mem_of_getElem? (i := 1105) (by decide +kernel)⟩
theorem lw_p34 : lw_okq (⟨"LeadBallsModel", "causeOf", "(J)I"⟩, 72) := ⟨⟨by decide +kernel, by decide +kernel⟩, List.mem_of_getElem? (i := 795) (by decide +kernel), List.mem_of_getElem? (i := 1108) (by decide +kernel), List.mem_of_getElem? (i := 1109) (by decide +kernel)⟩
theorem lw_p35 : lw_okq (⟨"LeadBallsModel", "named", "(Z)J"⟩, 72) := ⟨⟨by decide +kernel, by decide +kernel⟩, List.mem_of_getElem? (i := 795) (by decide +kernel), List.mem_of_getElem? (i := 1112) (by decide +kernel), List.mem_of_getElem? (i := 1113) (by decide +kernel)⟩
theorem lw_p36 : lw_okq (⟨"LeadBallsModel", "isName", "()Z"⟩, 72) := ⟨⟨by decide +kernel, by decide +kernel⟩, List.mem_of_getElem? (i := 795) (by decide +kernel), List.mem_of_getElem? (i := 1116) (by decide +kernel), List.mem_of_getElem? (i := 1117) (by decide +kernel)⟩
theorem lw_p37 : lw_okq (⟨"LeadBallsModel", "readTrial", "()V"⟩, 72) := ⟨⟨by decide +kernel, by decide +kernel⟩, List.mem_of_getElem? (i := 795) (by decide +kernel), List.mem_of_getElem? (i := 1128) (by decide +kernel), List.mem_of_getElem? (i := 1129) (by decide +kernel)⟩
theorem lw_p38 : lw_okq (⟨"LeadBallsModel", "seekRest", "(II)V"⟩, 72) := ⟨⟨by decide +kernel, by decide +kernel⟩, List.mem_of_getElem? (i := 795) (by decide +kernel), List.mem_of_getElem? (i := 1147) (by decide +kernel), List.mem_of_getElem? (i := 1148) (by decide +kernel)⟩
theorem lw_p39 : lw_okq (⟨"LeadBallsModel", "seekPull", "()V"⟩, 72) := ⟨⟨by decide +kernel, by decide +kernel⟩, List.mem_of_getElem? (i := 795) (by decide +kernel), List.mem_of_getElem? (i := 1151) (by decide +kernel), List.mem_of_getElem? (i := 1152) (by decide +kernel)⟩
theorem lw_p40 : lw_okq (⟨"LeadBallsModel", "found", "(JJ)V"⟩, 72) := ⟨⟨by decide +kernel, by decide +kernel⟩, List.mem_of_getElem? (i := 795) (by decide +kernel), List.mem_of_getElem? (i := 1156) (by decide +kernel), List.mem_of_getElem? (i := 1157) (by decide +kernel)⟩
theorem lw_p41 : lw_okq (⟨"LeadBallsModel", "part", "(I)J"⟩, 72) := ⟨⟨by decide +kernel, by decide +kernel⟩, List.mem_of_getElem? (i := 795) (by decide +kernel), List.mem_of_getElem? (i := 1164) (by decide +kernel), List.mem_of_getElem? (i := 1165) (by decide +kernel)⟩
theorem lw_p42 : lw_okq (⟨"LeadBallsModel", "seekFit", "(II)V"⟩, 72) := ⟨⟨by decide +kernel, by decide +kernel⟩, List.mem_of_getElem? (i := 795) (by decide +kernel), List.mem_of_getElem? (i := 1198) (by decide +kernel), List.mem_of_getElem? (i := 1199) (by decide +kernel)⟩
theorem lw_p43 : lw_okq (⟨"LeadBallsModel", "counts", "(II)Z"⟩, 72) := ⟨⟨by decide +kernel, by decide +kernel⟩, List.mem_of_getElem? (i := 795) (by decide +kernel), List.mem_of_getElem? (i := 1202) (by decide +kernel), List.mem_of_getElem? (i := 1203) (by decide +kernel)⟩
theorem lw_p44 : lw_okq (⟨"LeadBallsModel", "goes", "(II)I"⟩, 72) := ⟨⟨by decide +kernel, by decide +kernel⟩, List.mem_of_getElem? (i := 795) (by decide +kernel), List.mem_of_getElem? (i := 1206) (by decide +kernel), List.mem_of_getElem? (i := 1207) (by decide +kernel)⟩
theorem lw_p45 : lw_okq (⟨"LeadBallsModel", "determinant", "(II)J"⟩, 72) := ⟨⟨by decide +kernel, by decide +kernel⟩, List.mem_of_getElem? (i := 795) (by decide +kernel), List.mem_of_getElem? (i := 1210) (by decide +kernel), List.mem_of_getElem? (i := 1211) (by decide +kernel)⟩
theorem lw_p46 : lw_okq (⟨"LeadBallsModel", "two", "(IIII)J"⟩, 72) := ⟨⟨by decide +kernel, by decide +kernel⟩, List.mem_of_getElem? (i := 795) (by decide +kernel), List.mem_of_getElem? (i := 1214) (by decide +kernel), List.mem_of_getElem? (i := 1215) (by decide +kernel)⟩
theorem lw_p47 : lw_okq (⟨"LeadBallsModel", "three", "(IIIIII)J"⟩, 72) := ⟨⟨by decide +kernel, by decide +kernel⟩, List.mem_of_getElem? (i := 795) (by decide +kernel), List.mem_of_getElem? (i := 1218) (by decide +kernel), List.mem_of_getElem? (i := 1219) (by decide +kernel)⟩
def lw_privs_3 : List (MethodName × Nat) := [(⟨"LeadBallsModel", "want", "(J)V"⟩, 72), (⟨"LeadBallsModel", "readCause", "()V"⟩, 72), (⟨"LeadBallsModel", "causeOf", "(J)I"⟩, 72), (⟨"LeadBallsModel", "named", "(Z)J"⟩, 72), (⟨"LeadBallsModel", "isName", "()Z"⟩, 72), (⟨"LeadBallsModel", "readTrial", "()V"⟩, 72), (⟨"LeadBallsModel", "seekRest", "(II)V"⟩, 72), (⟨"LeadBallsModel", "seekPull", "()V"⟩, 72), (⟨"LeadBallsModel", "found", "(JJ)V"⟩, 72), (⟨"LeadBallsModel", "part", "(I)J"⟩, 72), (⟨"LeadBallsModel", "seekFit", "(II)V"⟩, 72), (⟨"LeadBallsModel", "counts", "(II)Z"⟩, 72), (⟨"LeadBallsModel", "goes", "(II)I"⟩, 72), (⟨"LeadBallsModel", "determinant", "(II)J"⟩, 72), (⟨"LeadBallsModel", "two", "(IIII)J"⟩, 72), (⟨"LeadBallsModel", "three", "(IIIIII)J"⟩, 72)]
theorem lw_r3 : ∀ q ∈ lw_privs_3, lw_okq q := List.forall_mem_cons.mpr ⟨lw_p32, List.forall_mem_cons.mpr ⟨lw_p33, List.forall_mem_cons.mpr ⟨lw_p34, List.forall_mem_cons.mpr ⟨lw_p35, List.forall_mem_cons.mpr ⟨lw_p36, List.forall_mem_cons.mpr ⟨lw_p37, List.forall_mem_cons.mpr ⟨lw_p38, List.forall_mem_cons.mpr ⟨lw_p39, List.forall_mem_cons.mpr ⟨lw_p40, List.forall_mem_cons.mpr ⟨lw_p41, List.forall_mem_cons.mpr ⟨lw_p42, List.forall_mem_cons.mpr ⟨lw_p43, List.forall_mem_cons.mpr ⟨lw_p44, List.forall_mem_cons.mpr ⟨lw_p45, List.forall_mem_cons.mpr ⟨lw_p46, List.forall_mem_cons.mpr ⟨lw_p47, fun _ h => absurd h List.not_mem_nil⟩⟩⟩⟩⟩⟩⟩⟩⟩⟩⟩⟩⟩⟩⟩⟩
theorem lw_p48 : lw_okq (⟨"LeadBallsModel", "offOf", "(I)J"⟩, 72) := ⟨⟨by decide +kernel, by decide +kernel⟩, List.mem_of_getElem? (i := 795) (by decide +kernel), List.mem_of_getElem? (i := 1222) (by decide +kernel), List.mem_of_getElem? (i := 1223) (by decide +kernel)⟩
theorem lw_p49 : lw_okq (⟨"LeadBallsModel", "weigh", "(II)V"⟩, 72) := ⟨⟨by decide +kernel, by decide +kernel⟩, List.mem_of_getElem? (i := 795) (by decide +kernel), List.mem_of_getElem? (i := 1239) (by decide +kernel), List.mem_of_getElem? (i := 1240) (by decide +kernel)⟩
theorem lw_p50 : lw_okq (⟨"LeadBallsModel", "isLess", "()Z"⟩, 72) := ⟨⟨by decide +kernel, by decide +kernel⟩, List.mem_of_getElem? (i := 795) (by decide +kernel), List.mem_of_getElem? (i := 1246) (by decide +kernel), List.mem_of_getElem? (i := 1247) (by decide +kernel)⟩
theorem lw_p51 : lw_okq (⟨"LeadBallsModel", "readHouse", "()V"⟩, 72) := ⟨⟨by decide +kernel, by decide +kernel⟩, List.mem_of_getElem? (i := 795) (by decide +kernel), List.mem_of_getElem? (i := 1254) (by decide +kernel), List.mem_of_getElem? (i := 1255) (by decide +kernel)⟩
theorem lw_p52 : lw_okq (⟨"LeadBallsModel", "moreOf", "(I)I"⟩, 72) := ⟨⟨by decide +kernel, by decide +kernel⟩, List.mem_of_getElem? (i := 795) (by decide +kernel), List.mem_of_getElem? (i := 1262) (by decide +kernel), List.mem_of_getElem? (i := 1263) (by decide +kernel)⟩
theorem lw_p53 : lw_okq (⟨"LeadBallsModel", "outOf", "()I"⟩, 72) := ⟨⟨by decide +kernel, by decide +kernel⟩, List.mem_of_getElem? (i := 795) (by decide +kernel), List.mem_of_getElem? (i := 1267) (by decide +kernel), List.mem_of_getElem? (i := 1268) (by decide +kernel)⟩
theorem lw_p54 : lw_okq (⟨"LeadBallsModel", "partsOf", "()I"⟩, 72) := ⟨⟨by decide +kernel, by decide +kernel⟩, List.mem_of_getElem? (i := 795) (by decide +kernel), List.mem_of_getElem? (i := 1271) (by decide +kernel), List.mem_of_getElem? (i := 1272) (by decide +kernel)⟩
theorem lw_p55 : lw_okq (⟨"LeadBallsModel", "readLine", "()V"⟩, 72) := ⟨⟨by decide +kernel, by decide +kernel⟩, List.mem_of_getElem? (i := 795) (by decide +kernel), List.mem_of_getElem? (i := 1279) (by decide +kernel), List.mem_of_getElem? (i := 1280) (by decide +kernel)⟩
theorem lw_p56 : lw_okq (⟨"LeadBallsModel", "lineOf", "(J)I"⟩, 72) := ⟨⟨by decide +kernel, by decide +kernel⟩, List.mem_of_getElem? (i := 795) (by decide +kernel), List.mem_of_getElem? (i := 1283) (by decide +kernel), List.mem_of_getElem? (i := 1284) (by decide +kernel)⟩
theorem lw_p57 : lw_okq (⟨"LeadBallsModel", "isOpen", "()Z"⟩, 72) := ⟨⟨by decide +kernel, by decide +kernel⟩, List.mem_of_getElem? (i := 795) (by decide +kernel), List.mem_of_getElem? (i := 1287) (by decide +kernel), List.mem_of_getElem? (i := 1288) (by decide +kernel)⟩
theorem lw_p58 : lw_okq (⟨"LeadBallsModel", "unit", "()Z"⟩, 72) := ⟨⟨by decide +kernel, by decide +kernel⟩, List.mem_of_getElem? (i := 795) (by decide +kernel), List.mem_of_getElem? (i := 1291) (by decide +kernel), List.mem_of_getElem? (i := 1292) (by decide +kernel)⟩
theorem lw_p59 : lw_okq (⟨"LeadBallsModel", "note", "(II)V"⟩, 72) := ⟨⟨by decide +kernel, by decide +kernel⟩, List.mem_of_getElem? (i := 795) (by decide +kernel), List.mem_of_getElem? (i := 1295) (by decide +kernel), List.mem_of_getElem? (i := 1296) (by decide +kernel)⟩
theorem lw_p60 : lw_okq (⟨"LeadBallsModel", "sign", "()Z"⟩, 72) := ⟨⟨by decide +kernel, by decide +kernel⟩, List.mem_of_getElem? (i := 795) (by decide +kernel), List.mem_of_getElem? (i := 1299) (by decide +kernel), List.mem_of_getElem? (i := 1300) (by decide +kernel)⟩
theorem lw_p61 : lw_okq (⟨"LeadBallsModel", "settle", "(I)V"⟩, 72) := ⟨⟨by decide +kernel, by decide +kernel⟩, List.mem_of_getElem? (i := 795) (by decide +kernel), List.mem_of_getElem? (i := 1303) (by decide +kernel), List.mem_of_getElem? (i := 1304) (by decide +kernel)⟩
theorem lw_p62 : lw_okq (⟨"LeadBallsModel", "upper", "()I"⟩, 72) := ⟨⟨by decide +kernel, by decide +kernel⟩, List.mem_of_getElem? (i := 795) (by decide +kernel), List.mem_of_getElem? (i := 1307) (by decide +kernel), List.mem_of_getElem? (i := 1308) (by decide +kernel)⟩
theorem lw_p63 : lw_okq (⟨"LeadBallsModel", "eOf", "(I[I)I"⟩, 72) := ⟨⟨by decide +kernel, by decide +kernel⟩, List.mem_of_getElem? (i := 795) (by decide +kernel), List.mem_of_getElem? (i := 1318) (by decide +kernel), List.mem_of_getElem? (i := 1319) (by decide +kernel)⟩
def lw_privs_4 : List (MethodName × Nat) := [(⟨"LeadBallsModel", "offOf", "(I)J"⟩, 72), (⟨"LeadBallsModel", "weigh", "(II)V"⟩, 72), (⟨"LeadBallsModel", "isLess", "()Z"⟩, 72), (⟨"LeadBallsModel", "readHouse", "()V"⟩, 72), (⟨"LeadBallsModel", "moreOf", "(I)I"⟩, 72), (⟨"LeadBallsModel", "outOf", "()I"⟩, 72), (⟨"LeadBallsModel", "partsOf", "()I"⟩, 72), (⟨"LeadBallsModel", "readLine", "()V"⟩, 72), (⟨"LeadBallsModel", "lineOf", "(J)I"⟩, 72), (⟨"LeadBallsModel", "isOpen", "()Z"⟩, 72), (⟨"LeadBallsModel", "unit", "()Z"⟩, 72), (⟨"LeadBallsModel", "note", "(II)V"⟩, 72), (⟨"LeadBallsModel", "sign", "()Z"⟩, 72), (⟨"LeadBallsModel", "settle", "(I)V"⟩, 72), (⟨"LeadBallsModel", "upper", "()I"⟩, 72), (⟨"LeadBallsModel", "eOf", "(I[I)I"⟩, 72)]
theorem lw_r4 : ∀ q ∈ lw_privs_4, lw_okq q := List.forall_mem_cons.mpr ⟨lw_p48, List.forall_mem_cons.mpr ⟨lw_p49, List.forall_mem_cons.mpr ⟨lw_p50, List.forall_mem_cons.mpr ⟨lw_p51, List.forall_mem_cons.mpr ⟨lw_p52, List.forall_mem_cons.mpr ⟨lw_p53, List.forall_mem_cons.mpr ⟨lw_p54, List.forall_mem_cons.mpr ⟨lw_p55, List.forall_mem_cons.mpr ⟨lw_p56, List.forall_mem_cons.mpr ⟨lw_p57, List.forall_mem_cons.mpr ⟨lw_p58, List.forall_mem_cons.mpr ⟨lw_p59, List.forall_mem_cons.mpr ⟨lw_p60, List.forall_mem_cons.mpr ⟨lw_p61, List.forall_mem_cons.mpr ⟨lw_p62, List.forall_mem_cons.mpr ⟨lw_p63, fun _ h => absurd h List.not_mem_nil⟩⟩⟩⟩⟩⟩⟩⟩⟩⟩⟩⟩⟩⟩⟩⟩
theorem lw_p64 : lw_okq (⟨"LeadBallsModel", "slipOf", "(I)I"⟩, 72) := ⟨⟨by decide +kernel, by decide +kernel⟩, List.mem_of_getElem? (i := 795) (by decide +kernel), List.mem_of_getElem? (i := 1325) (by decide +kernel), List.mem_of_getElem? (i := 1326) (by decide +kernel)⟩
theorem lw_p65 : lw_okq (⟨"LeadBallsModel", "without", "(I)I"⟩, 72) := ⟨⟨by decide +kernel, by decide +kernel⟩, List.mem_of_getElem? (i := 795) (by decide +kernel), List.mem_of_getElem? (i := 1329) (by decide +kernel), List.mem_of_getElem? (i := 1330) (by decide +kernel)⟩
theorem lw_p66 : lw_okq (⟨"LeadBallsModel", "mayBe", "()I"⟩, 72) := ⟨⟨by decide +kernel, by decide +kernel⟩, List.mem_of_getElem? (i := 795) (by decide +kernel), List.mem_of_getElem? (i := 1345) (by decide +kernel), List.mem_of_getElem? (i := 1346) (by decide +kernel)⟩
def lw_privs_5 : List (MethodName × Nat) := [(⟨"LeadBallsModel", "slipOf", "(I)I"⟩, 72), (⟨"LeadBallsModel", "without", "(I)I"⟩, 72), (⟨"LeadBallsModel", "mayBe", "()I"⟩, 72)]
theorem lw_r5 : ∀ q ∈ lw_privs_5, lw_okq q := List.forall_mem_cons.mpr ⟨lw_p64, List.forall_mem_cons.mpr ⟨lw_p65, List.forall_mem_cons.mpr ⟨lw_p66, fun _ h => absurd h List.not_mem_nil⟩⟩⟩
def lw_privs : List (MethodName × Nat) := lw_privs_1 ++ (lw_privs_2 ++ (lw_privs_3 ++ (lw_privs_4 ++ (lw_privs_5))))
def lw_tbl : List Cond := k2_sels lw_privs ++ tables_1
theorem lw_privs_ok : ∀ q ∈ lw_privs, lw_okq q := by
  show ∀ q ∈ lw_privs_1 ++ (lw_privs_2 ++ (lw_privs_3 ++ (lw_privs_4 ++ (lw_privs_5)))), lw_okq q
  exact List.forall_mem_append.mpr ⟨lw_r1, List.forall_mem_append.mpr ⟨lw_r2, List.forall_mem_append.mpr ⟨lw_r3, List.forall_mem_append.mpr ⟨lw_r4, lw_r5⟩⟩⟩⟩
def RX0 : String := "LeadBalls$Causes"
def TX0 : u_T := fun k => match k with
  | 0 => ("LeadBalls$Causes", "count", "I", false)
  | 1 => ("LeadBalls$Causes", "trials", "I", false)
  | 2 => ("LeadBalls$Causes", "causeNames", "[J", true)
  | 3 => ("LeadBalls$Causes", "trialNames", "[J", true)
  | 4 => ("LeadBalls$Causes", "shown", "[I", true)
  | 5 => ("LeadBalls$Causes", "fewestOf", "[B", true)
  | 6 => ("LeadBalls$Causes", "known", "I", false)
  | _ => ("LeadBalls$Causes", "positive", "I", false)
def tyX0 : Nat → FieldType := fun k => match k with
  | 0 => .int
  | 1 => .int
  | 2 => .array .long
  | 3 => .array .long
  | 4 => .array .int
  | 5 => .array .byte
  | 6 => .int
  | _ => .int
abbrev wsX00 : List Cond := u_ws RX0 TX0 8
theorem nmX0 : ∀ a, a < 8 → ∀ b, b < 8 → a ≠ b → (TX0 a).2.1 ≠ (TX0 b).2.1 := by decide +kernel
theorem tyX0_ok : ∀ k, k < 8 → parseFieldDescriptor (TX0 k).2.2.1 = some (tyX0 k) := by decide +kernel
abbrev cX0_init : ByteArray := prog_2_method_1_code
def yX0_init : MethodName := ⟨RX0, "<init>", "()V"⟩
abbrev cX0_clear : ByteArray := prog_2_method_2_code
def yX0_clear : MethodName := ⟨RX0, "clear", "()V"⟩
abbrev cX0_readCause : ByteArray := prog_2_method_3_code
def yX0_readCause : MethodName := ⟨RX0, "readCause", "(LLeadBalls$Reader;)Z"⟩
abbrev cX0_readTrial : ByteArray := prog_2_method_4_code
def yX0_readTrial : MethodName := ⟨RX0, "readTrial", "(LLeadBalls$Reader;)Z"⟩
abbrev cX0_tell : ByteArray := prog_2_method_5_code
def yX0_tell : MethodName := ⟨RX0, "tell", "(IZ)Z"⟩
abbrev cX0_possible : ByteArray := prog_2_method_6_code
def yX0_possible : MethodName := ⟨RX0, "possible", "()I"⟩
abbrev cX0_bestTrial : ByteArray := prog_2_method_7_code
def yX0_bestTrial : MethodName := ⟨RX0, "bestTrial", "()I"⟩
abbrev cX0_fewestTrials : ByteArray := prog_2_method_8_code
def yX0_fewestTrials : MethodName := ⟨RX0, "fewestTrials", "()I"⟩
abbrev cX0_fillFewest : ByteArray := prog_2_method_9_code
def yX0_fillFewest : MethodName := ⟨RX0, "fillFewest", "()V"⟩
abbrev cX0_fewestFor : ByteArray := prog_2_method_10_code
def yX0_fewestFor : MethodName := ⟨RX0, "fewestFor", "(I)I"⟩
def RX1 : String := "LeadBalls$Fit"
def TX1 : u_T := fun k => match k with
  | 0 => ("LeadBalls$Fit", "upper", "[J", true)
  | 1 => ("LeadBalls$Fit", "lower", "J", false)
  | 2 => ("LeadBalls$Fit", "unknowns", "I", false)
  | 3 => ("LeadBalls$Fit", "table", "[J", true)
  | _ => ("LeadBalls$Fit", "terms", "[I", true)
def tyX1 : Nat → FieldType := fun k => match k with
  | 0 => .array .long
  | 1 => .long
  | 2 => .int
  | 3 => .array .long
  | _ => .array .int
abbrev wsX10 : List Cond := u_ws RX1 TX1 5
theorem nmX1 : ∀ a, a < 5 → ∀ b, b < 5 → a ≠ b → (TX1 a).2.1 ≠ (TX1 b).2.1 := by decide +kernel
theorem tyX1_ok : ∀ k, k < 5 → parseFieldDescriptor (TX1 k).2.2.1 = some (tyX1 k) := by decide +kernel
abbrev cX1_init : ByteArray := prog_3_method_1_code
def yX1_init : MethodName := ⟨RX1, "<init>", "()V"⟩
abbrev cX1_solve : ByteArray := prog_3_method_2_code
def yX1_solve : MethodName := ⟨RX1, "solve", "(LLeadBalls$Readings;II)Z"⟩
abbrev cX1_gather : ByteArray := prog_3_method_3_code
def yX1_gather : MethodName := ⟨RX1, "gather", "(LLeadBalls$Readings;I)V"⟩
abbrev cX1_addRow : ByteArray := prog_3_method_4_code
def yX1_addRow : MethodName := ⟨RX1, "addRow", "()V"⟩
abbrev cX1_determinant : ByteArray := prog_3_method_5_code
def yX1_determinant : MethodName := ⟨RX1, "determinant", "([JIIII)J"⟩
abbrev cX1_mostOff : ByteArray := prog_3_method_6_code
def yX1_mostOff : MethodName := ⟨RX1, "mostOff", "(LLeadBalls$Readings;I)J"⟩
def RX2 : String := "LeadBalls$Houses"
def TX2 : u_T := fun k => match k with
  | 0 => ("LeadBalls$Houses", "count", "I", false)
  | 1 => ("LeadBalls$Houses", "names", "[J", true)
  | 2 => ("LeadBalls$Houses", "wires", "[J", true)
  | 3 => ("LeadBalls$Houses", "cellars", "[J", true)
  | 4 => ("LeadBalls$Houses", "low", "[I", true)
  | 5 => ("LeadBalls$Houses", "high", "[I", true)
  | _ => ("LeadBalls$Houses", "partOf", "[I", true)
def tyX2 : Nat → FieldType := fun k => match k with
  | 0 => .int
  | 1 => .array .long
  | 2 => .array .long
  | 3 => .array .long
  | 4 => .array .int
  | 5 => .array .int
  | _ => .array .int
abbrev wsX20 : List Cond := u_ws RX2 TX2 7
theorem nmX2 : ∀ a, a < 7 → ∀ b, b < 7 → a ≠ b → (TX2 a).2.1 ≠ (TX2 b).2.1 := by decide +kernel
theorem tyX2_ok : ∀ k, k < 7 → parseFieldDescriptor (TX2 k).2.2.1 = some (tyX2 k) := by decide +kernel
abbrev cX2_init : ByteArray := prog_4_method_1_code
def yX2_init : MethodName := ⟨RX2, "<init>", "()V"⟩
abbrev cX2_read : ByteArray := prog_4_method_2_code
def yX2_read : MethodName := ⟨RX2, "read", "(LLeadBalls$Reader;)Z"⟩
abbrev cX2_readHouse : ByteArray := prog_4_method_3_code
def yX2_readHouse : MethodName := ⟨RX2, "readHouse", "(LLeadBalls$Reader;)Z"⟩
abbrev cX2_more : ByteArray := prog_4_method_4_code
def yX2_more : MethodName := ⟨RX2, "more", "()I"⟩
abbrev cX2_out : ByteArray := prog_4_method_5_code
def yX2_out : MethodName := ⟨RX2, "out", "()I"⟩
abbrev cX2_notLetting : ByteArray := prog_4_method_6_code
def yX2_notLetting : MethodName := ⟨RX2, "notLetting", "(I)I"⟩
abbrev cX2_apart : ByteArray := prog_4_method_7_code
def yX2_apart : MethodName := ⟨RX2, "apart", "()I"⟩
abbrev cX2_join : ByteArray := prog_4_method_8_code
def yX2_join : MethodName := ⟨RX2, "join", "(II)V"⟩
def RX3 : String := "LeadBalls$Reader"
def TX3 : u_T := fun k => match k with
  | 0 => ("LeadBalls$Reader", "tape", "LLeadBalls$Tape;", true)
  | 1 => ("LeadBalls$Reader", "words", "[J", true)
  | 2 => ("LeadBalls$Reader", "inSum", "Z", false)
  | 3 => ("LeadBalls$Reader", "at", "I", false)
  | 4 => ("LeadBalls$Reader", "kind", "I", false)
  | 5 => ("LeadBalls$Reader", "place", "I", false)
  | 6 => ("LeadBalls$Reader", "number", "I", false)
  | 7 => ("LeadBalls$Reader", "name", "J", false)
  | 8 => ("LeadBalls$Reader", "takenNumber", "I", false)
  | 9 => ("LeadBalls$Reader", "takenName", "J", false)
  | 10 => ("LeadBalls$Reader", "fault", "I", false)
  | _ => ("LeadBalls$Reader", "faultPlace", "I", false)
def tyX3 : Nat → FieldType := fun k => match k with
  | 0 => .object "LeadBalls$Tape"
  | 1 => .array .long
  | 2 => .boolean
  | 3 => .int
  | 4 => .int
  | 5 => .int
  | 6 => .int
  | 7 => .long
  | 8 => .int
  | 9 => .long
  | 10 => .int
  | _ => .int
abbrev wsX30 : List Cond := u_ws RX3 TX3 12
theorem nmX3 : ∀ a, a < 12 → ∀ b, b < 12 → a ≠ b → (TX3 a).2.1 ≠ (TX3 b).2.1 := by decide +kernel
theorem tyX3_ok : ∀ k, k < 12 → parseFieldDescriptor (TX3 k).2.2.1 = some (tyX3 k) := by decide +kernel
abbrev cX3_init : ByteArray := prog_5_method_1_code
def yX3_init : MethodName := ⟨RX3, "<init>", "(LLeadBalls$Tape;)V"⟩
abbrev cX3_open : ByteArray := prog_5_method_2_code
def yX3_open : MethodName := ⟨RX3, "open", "(Z)V"⟩
abbrev cX3_advance : ByteArray := prog_5_method_3_code
def yX3_advance : MethodName := ⟨RX3, "advance", "()V"⟩
abbrev cX3_isSign : ByteArray := prog_5_method_4_code
def yX3_isSign : MethodName := ⟨RX3, "isSign", "(I)Z"⟩
abbrev cX3_readWord : ByteArray := prog_5_method_5_code
def yX3_readWord : MethodName := ⟨RX3, "readWord", "()V"⟩
abbrev cX3_readNumber : ByteArray := prog_5_method_6_code
def yX3_readNumber : MethodName := ⟨RX3, "readNumber", "()V"⟩
abbrev cX3_refuse : ByteArray := prog_5_method_7_code
def yX3_refuse : MethodName := ⟨RX3, "refuse", "(I)Z"⟩
abbrev cX3_refuseAt : ByteArray := prog_5_method_8_code
def yX3_refuseAt : MethodName := ⟨RX3, "refuseAt", "(II)Z"⟩
abbrev cX3_take : ByteArray := prog_5_method_9_code
def yX3_take : MethodName := ⟨RX3, "take", "(I)Z"⟩
abbrev cX3_takeName : ByteArray := prog_5_method_10_code
def yX3_takeName : MethodName := ⟨RX3, "takeName", "()Z"⟩
abbrev cX3_takeNewName : ByteArray := prog_5_method_11_code
def yX3_takeNewName : MethodName := ⟨RX3, "takeNewName", "([JI)Z"⟩
abbrev cX3_takeNumber : ByteArray := prog_5_method_12_code
def yX3_takeNumber : MethodName := ⟨RX3, "takeNumber", "(II)Z"⟩
abbrev cX3_takeSigned : ByteArray := prog_5_method_13_code
def yX3_takeSigned : MethodName := ⟨RX3, "takeSigned", "(II)Z"⟩
def RX4 : String := "LeadBalls$Readings"
def TX4 : u_T := fun k => match k with
  | 0 => ("LeadBalls$Readings", "count", "I", false)
  | 1 => ("LeadBalls$Readings", "time", "I", false)
  | 2 => ("LeadBalls$Readings", "minutes", "[I", true)
  | 3 => ("LeadBalls$Readings", "sides", "[I", true)
  | 4 => ("LeadBalls$Readings", "numbers", "[I", true)
  | 5 => ("LeadBalls$Readings", "toldAt", "[I", true)
  | _ => ("LeadBalls$Readings", "untoldAt", "[I", true)
def tyX4 : Nat → FieldType := fun k => match k with
  | 0 => .int
  | 1 => .int
  | 2 => .array .int
  | 3 => .array .int
  | 4 => .array .int
  | 5 => .array .int
  | _ => .array .int
abbrev wsX40 : List Cond := u_ws RX4 TX4 7
theorem nmX4 : ∀ a, a < 7 → ∀ b, b < 7 → a ≠ b → (TX4 a).2.1 ≠ (TX4 b).2.1 := by decide +kernel
theorem tyX4_ok : ∀ k, k < 7 → parseFieldDescriptor (TX4 k).2.2.1 = some (tyX4 k) := by decide +kernel
abbrev cX4_init : ByteArray := prog_6_method_1_code
def yX4_init : MethodName := ⟨RX4, "<init>", "()V"⟩
abbrev cX4_tell : ByteArray := prog_6_method_2_code
def yX4_tell : MethodName := ⟨RX4, "tell", "(III)I"⟩
abbrev cX4_takeBack : ByteArray := prog_6_method_3_code
def yX4_takeBack : MethodName := ⟨RX4, "takeBack", "(I)Z"⟩
abbrev cX4_goOn : ByteArray := prog_6_method_4_code
def yX4_goOn : MethodName := ⟨RX4, "goOn", "(I)I"⟩
abbrev cX4_counts : ByteArray := prog_6_method_5_code
def yX4_counts : MethodName := ⟨RX4, "counts", "(II)Z"⟩
abbrev cX4_row : ByteArray := prog_6_method_6_code
def yX4_row : MethodName := ⟨RX4, "row", "(I[I)V"⟩
def RX5 : String := "LeadBalls$Shed"
def TX5 : u_T := fun k => match k with
  | 0 => ("LeadBalls$Shed", "lines", "I", false)
  | 1 => ("LeadBalls$Shed", "causes", "LLeadBalls$Causes;", true)
  | 2 => ("LeadBalls$Shed", "settings", "[I", true)
  | _ => ("LeadBalls$Shed", "told", "I", false)
def tyX5 : Nat → FieldType := fun k => match k with
  | 0 => .int
  | 1 => .object "LeadBalls$Causes"
  | 2 => .array .int
  | _ => .int
abbrev wsX50 : List Cond := u_ws RX5 TX5 4
theorem nmX5 : ∀ a, a < 4 → ∀ b, b < 4 → a ≠ b → (TX5 a).2.1 ≠ (TX5 b).2.1 := by decide +kernel
theorem tyX5_ok : ∀ k, k < 4 → parseFieldDescriptor (TX5 k).2.2.1 = some (tyX5 k) := by decide +kernel
abbrev cX5_init : ByteArray := prog_7_method_1_code
def yX5_init : MethodName := ⟨RX5, "<init>", "()V"⟩
abbrev cX5_read : ByteArray := prog_7_method_2_code
def yX5_read : MethodName := ⟨RX5, "read", "(LLeadBalls$Reader;)Z"⟩
abbrev cX5_readLine : ByteArray := prog_7_method_3_code
def yX5_readLine : MethodName := ⟨RX5, "readLine", "(LLeadBalls$Reader;)Z"⟩
abbrev cX5_readNearAndFar : ByteArray := prog_7_method_4_code
def yX5_readNearAndFar : MethodName := ⟨RX5, "readNearAndFar", "(LLeadBalls$Reader;)Z"⟩
abbrev cX5_readSetting : ByteArray := prog_7_method_5_code
def yX5_readSetting : MethodName := ⟨RX5, "readSetting", "(LLeadBalls$Reader;I)Z"⟩
abbrev cX5_setting : ByteArray := prog_7_method_6_code
def yX5_setting : MethodName := ⟨RX5, "setting", "(I)J"⟩
abbrev cX5_pullUpper : ByteArray := prog_7_method_7_code
def yX5_pullUpper : MethodName := ⟨RX5, "pullUpper", "()J"⟩
abbrev cX5_lower : ByteArray := prog_7_method_8_code
def yX5_lower : MethodName := ⟨RX5, "lower", "()J"⟩
abbrev cX5_restUpper : ByteArray := prog_7_method_9_code
def yX5_restUpper : MethodName := ⟨RX5, "restUpper", "(II)J"⟩
def RX6 : String := "LeadBalls$Sum"
def TX6 : u_T := fun k => match k with
  | 0 => ("LeadBalls$Sum", "lines", "I", false)
  | 1 => ("LeadBalls$Sum", "units", "I", false)
  | 2 => ("LeadBalls$Sum", "worked", "[I", true)
  | 3 => ("LeadBalls$Sum", "slip", "[I", true)
  | 4 => ("LeadBalls$Sum", "names", "[J", true)
  | 5 => ("LeadBalls$Sum", "prints", "[I", true)
  | 6 => ("LeadBalls$Sum", "firstStep", "[I", true)
  | 7 => ("LeadBalls$Sum", "stepKind", "[I", true)
  | 8 => ("LeadBalls$Sum", "stepValue", "[I", true)
  | 9 => ("LeadBalls$Sum", "stack", "[I", true)
  | 10 => ("LeadBalls$Sum", "comesTo", "[I", true)
  | _ => ("LeadBalls$Sum", "steps", "I", false)
def tyX6 : Nat → FieldType := fun k => match k with
  | 0 => .int
  | 1 => .int
  | 2 => .array .int
  | 3 => .array .int
  | 4 => .array .long
  | 5 => .array .int
  | 6 => .array .int
  | 7 => .array .int
  | 8 => .array .int
  | 9 => .array .int
  | 10 => .array .int
  | _ => .int
abbrev wsX60 : List Cond := u_ws RX6 TX6 12
theorem nmX6 : ∀ a, a < 12 → ∀ b, b < 12 → a ≠ b → (TX6 a).2.1 ≠ (TX6 b).2.1 := by decide +kernel
theorem tyX6_ok : ∀ k, k < 12 → parseFieldDescriptor (TX6 k).2.2.1 = some (tyX6 k) := by decide +kernel
abbrev cX6_init : ByteArray := prog_8_method_1_code
def yX6_init : MethodName := ⟨RX6, "<init>", "()V"⟩
abbrev cX6_read : ByteArray := prog_8_method_2_code
def yX6_read : MethodName := ⟨RX6, "read", "(LLeadBalls$Reader;)Z"⟩
abbrev cX6_readLine : ByteArray := prog_8_method_3_code
def yX6_readLine : MethodName := ⟨RX6, "readLine", "(LLeadBalls$Reader;)Z"⟩
abbrev cX6_readExpression : ByteArray := prog_8_method_4_code
def yX6_readExpression : MethodName := ⟨RX6, "readExpression", "(LLeadBalls$Reader;I)Z"⟩
abbrev cX6_addSignStep : ByteArray := prog_8_method_5_code
def yX6_addSignStep : MethodName := ⟨RX6, "addSignStep", "(I)V"⟩
abbrev cX6_readUnit : ByteArray := prog_8_method_6_code
def yX6_readUnit : MethodName := ⟨RX6, "readUnit", "(LLeadBalls$Reader;I)Z"⟩
abbrev cX6_addStep : ByteArray := prog_8_method_7_code
def yX6_addStep : MethodName := ⟨RX6, "addStep", "(II)V"⟩
abbrev cX6_workAll : ByteArray := prog_8_method_8_code
def yX6_workAll : MethodName := ⟨RX6, "workAll", "()V"⟩
abbrev cX6_valueOf : ByteArray := prog_8_method_9_code
def yX6_valueOf : MethodName := ⟨RX6, "valueOf", "(I[I)I"⟩
abbrev cX6_joined : ByteArray := prog_8_method_10_code
def yX6_joined : MethodName := ⟨RX6, "joined", "(III)I"⟩
abbrev cX6_lastWith : ByteArray := prog_8_method_11_code
def yX6_lastWith : MethodName := ⟨RX6, "lastWith", "(I)I"⟩
abbrev cX6_moved : ByteArray := prog_8_method_12_code
def yX6_moved : MethodName := ⟨RX6, "moved", "(I)I"⟩
def RX7 : String := "LeadBalls$Tape"
def TX7 : u_T := fun k => match k with
  | 0 => ("LeadBalls$Tape", "bytes", "[B", true)
  | _ => ("LeadBalls$Tape", "length", "I", false)
def tyX7 : Nat → FieldType := fun k => match k with
  | 0 => .array .byte
  | _ => .int
abbrev wsX70 : List Cond := u_ws RX7 TX7 2
theorem nmX7 : ∀ a, a < 2 → ∀ b, b < 2 → a ≠ b → (TX7 a).2.1 ≠ (TX7 b).2.1 := by decide +kernel
theorem tyX7_ok : ∀ k, k < 2 → parseFieldDescriptor (TX7 k).2.2.1 = some (tyX7 k) := by decide +kernel
abbrev cX7_init : ByteArray := prog_9_method_1_code
def yX7_init : MethodName := ⟨RX7, "<init>", "()V"⟩
abbrev cX7_append : ByteArray := prog_9_method_2_code
def yX7_append : MethodName := ⟨RX7, "append", "(I)V"⟩
def RX8 : String := "LeadBalls"
def TX8 : u_T := fun k => match k with
  | 0 => ("LeadBalls", "tape", "LLeadBalls$Tape;", true)
  | 1 => ("LeadBalls", "reader", "LLeadBalls$Reader;", true)
  | 2 => ("LeadBalls", "theShed", "LLeadBalls$Shed;", false)
  | 3 => ("LeadBalls", "spareShed", "LLeadBalls$Shed;", false)
  | 4 => ("LeadBalls", "theHouses", "LLeadBalls$Houses;", false)
  | 5 => ("LeadBalls", "spareHouses", "LLeadBalls$Houses;", false)
  | 6 => ("LeadBalls", "theSum", "LLeadBalls$Sum;", false)
  | 7 => ("LeadBalls", "spareSum", "LLeadBalls$Sum;", false)
  | 8 => ("LeadBalls", "readings", "LLeadBalls$Readings;", true)
  | 9 => ("LeadBalls", "fitting", "LLeadBalls$Fit;", true)
  | _ => ("LeadBalls", "orders", "[I", true)
def tyX8 : Nat → FieldType := fun k => match k with
  | 0 => .object "LeadBalls$Tape"
  | 1 => .object "LeadBalls$Reader"
  | 2 => .object "LeadBalls$Shed"
  | 3 => .object "LeadBalls$Shed"
  | 4 => .object "LeadBalls$Houses"
  | 5 => .object "LeadBalls$Houses"
  | 6 => .object "LeadBalls$Sum"
  | 7 => .object "LeadBalls$Sum"
  | 8 => .object "LeadBalls$Readings"
  | 9 => .object "LeadBalls$Fit"
  | _ => .array .int
abbrev wsX80 : List Cond := u_ws RX8 TX8 11
theorem nmX8 : ∀ a, a < 11 → ∀ b, b < 11 → a ≠ b → (TX8 a).2.1 ≠ (TX8 b).2.1 := by decide +kernel
theorem tyX8_ok : ∀ k, k < 11 → parseFieldDescriptor (TX8 k).2.2.1 = some (tyX8 k) := by decide +kernel
abbrev cX8_init : ByteArray := prog_1_method_1_code
def yX8_init : MethodName := ⟨RX8, "<init>", "()V"⟩
abbrev cX8_feed : ByteArray := prog_1_method_2_code
def yX8_feed : MethodName := ⟨RX8, "feed", "(IIIII)I"⟩
abbrev cX8_end : ByteArray := prog_1_method_3_code
def yX8_end : MethodName := ⟨RX8, "end", "(I)I"⟩
abbrev cX8_shed : ByteArray := prog_1_method_4_code
def yX8_shed : MethodName := ⟨RX8, "shed", "()I"⟩
abbrev cX8_houses : ByteArray := prog_1_method_5_code
def yX8_houses : MethodName := ⟨RX8, "houses", "()I"⟩
abbrev cX8_sum : ByteArray := prog_1_method_6_code
def yX8_sum : MethodName := ⟨RX8, "sum", "()I"⟩
abbrev cX8_fault : ByteArray := prog_1_method_7_code
def yX8_fault : MethodName := ⟨RX8, "fault", "(I)I"⟩
abbrev cX8_rest : ByteArray := prog_1_method_8_code
def yX8_rest : MethodName := ⟨RX8, "rest", "(III)J"⟩
abbrev cX8_turning : ByteArray := prog_1_method_9_code
def yX8_turning : MethodName := ⟨RX8, "turning", "(IIII)J"⟩
abbrev cX8_had : ByteArray := prog_1_method_10_code
def yX8_had : MethodName := ⟨RX8, "had", "(IIIII)J"⟩
abbrev cX8_reading : ByteArray := prog_1_method_11_code
def yX8_reading : MethodName := ⟨RX8, "reading", "(III)I"⟩
abbrev cX8_untell : ByteArray := prog_1_method_12_code
def yX8_untell : MethodName := ⟨RX8, "untell", "(I)Z"⟩
abbrev cX8_later : ByteArray := prog_1_method_13_code
def yX8_later : MethodName := ⟨RX8, "later", "(I)I"⟩
abbrev cX8_fit : ByteArray := prog_1_method_14_code
def yX8_fit : MethodName := ⟨RX8, "fit", "(IIII)J"⟩
abbrev cX8_world : ByteArray := prog_1_method_15_code
def yX8_world : MethodName := ⟨RX8, "world", "(I)J"⟩
abbrev cX8_order : ByteArray := prog_1_method_16_code
def yX8_order : MethodName := ⟨RX8, "order", "(I)I"⟩
abbrev cX8_agree : ByteArray := prog_1_method_17_code
def yX8_agree : MethodName := ⟨RX8, "agree", "(I)I"⟩
abbrev cX8_line : ByteArray := prog_1_method_18_code
def yX8_line : MethodName := ⟨RX8, "line", "(II)J"⟩
abbrev cX8_right : ByteArray := prog_1_method_19_code
def yX8_right : MethodName := ⟨RX8, "right", "()J"⟩
abbrev cX8_result : ByteArray := prog_1_method_20_code
def yX8_result : MethodName := ⟨RX8, "result", "(IZ)Z"⟩
abbrev cX8_maybe : ByteArray := prog_1_method_21_code
def yX8_maybe : MethodName := ⟨RX8, "maybe", "()I"⟩
abbrev cX8_next : ByteArray := prog_1_method_22_code
def yX8_next : MethodName := ⟨RX8, "next", "()I"⟩
abbrev cX8_fewest : ByteArray := prog_1_method_23_code
def yX8_fewest : MethodName := ⟨RX8, "fewest", "()I"⟩
abbrev cX8_about : ByteArray := prog_1_method_24_code
def yX8_about : MethodName := ⟨RX8, "about", "(I)I"⟩
abbrev cX8_within : ByteArray := prog_1_method_25_code
def yX8_within : MethodName := ⟨RX8, "within", "(III)Z"⟩
abbrev cX8_floorOf : ByteArray := prog_1_method_26_code
def yX8_floorOf : MethodName := ⟨RX8, "floorOf", "(JJ)J"⟩
abbrev cX8_lowest : ByteArray := prog_1_method_27_code
def yX8_lowest : MethodName := ⟨RX8, "lowest", "(JJI)J"⟩
abbrev cX8_commonDivisor : ByteArray := prog_1_method_28_code
def yX8_commonDivisor : MethodName := ⟨RX8, "commonDivisor", "(JJ)J"⟩
abbrev cX8_indexOf : ByteArray := prog_1_method_29_code
def yX8_indexOf : MethodName := ⟨RX8, "indexOf", "([JIJ)I"⟩
abbrev cX8_bestOrder : ByteArray := prog_1_method_30_code
def yX8_bestOrder : MethodName := ⟨RX8, "bestOrder", "(I)I"⟩
abbrev cX8_orderWeight : ByteArray := prog_1_method_31_code
def yX8_orderWeight : MethodName := ⟨RX8, "orderWeight", "(II)J"⟩
def RX9 : String := "LeadBallsModel"
def TX9 : u_T := fun k => match k with
  | 0 => ("LeadBallsModel", "tape", "[I", true)
  | 1 => ("LeadBallsModel", "taped", "I", false)
  | 2 => ("LeadBallsModel", "fault", "I", false)
  | 3 => ("LeadBallsModel", "faultPlace", "I", false)
  | 4 => ("LeadBallsModel", "at", "I", false)
  | 5 => ("LeadBallsModel", "size", "I", false)
  | 6 => ("LeadBallsModel", "sort", "I", false)
  | 7 => ("LeadBallsModel", "place", "I", false)
  | 8 => ("LeadBallsModel", "number", "I", false)
  | 9 => ("LeadBallsModel", "word", "J", false)
  | 10 => ("LeadBallsModel", "ofSum", "Z", false)
  | 11 => ("LeadBallsModel", "nTold", "[I", true)
  | 12 => ("LeadBallsModel", "told", "[I", true)
  | 13 => ("LeadBallsModel", "nShows", "[I", true)
  | 14 => ("LeadBallsModel", "shows", "[I", true)
  | 15 => ("LeadBallsModel", "nHas", "[Z", true)
  | 16 => ("LeadBallsModel", "nCause", "[J", true)
  | 17 => ("LeadBallsModel", "nTrial", "[J", true)
  | 18 => ("LeadBallsModel", "nCauses", "I", false)
  | 19 => ("LeadBallsModel", "nTrials", "I", false)
  | 20 => ("LeadBallsModel", "nLines", "I", false)
  | 21 => ("LeadBallsModel", "causes", "I", false)
  | 22 => ("LeadBallsModel", "trials", "I", false)
  | 23 => ("LeadBallsModel", "up", "J", false)
  | 24 => ("LeadBallsModel", "low", "J", false)
  | 25 => ("LeadBallsModel", "minutes", "[I", true)
  | 26 => ("LeadBallsModel", "sides", "[I", true)
  | 27 => ("LeadBallsModel", "numbers", "[I", true)
  | 28 => ("LeadBallsModel", "whenTold", "[I", true)
  | 29 => ("LeadBallsModel", "untold", "[I", true)
  | 30 => ("LeadBallsModel", "readings", "I", false)
  | 31 => ("LeadBallsModel", "time", "I", false)
  | 32 => ("LeadBallsModel", "sums", "[J", true)
  | 33 => ("LeadBallsModel", "withNumbers", "[J", true)
  | 34 => ("LeadBallsModel", "square", "[J", true)
  | 35 => ("LeadBallsModel", "fits", "[J", true)
  | 36 => ("LeadBallsModel", "under", "J", false)
  | 37 => ("LeadBallsModel", "leasts", "[J", true)
  | 38 => ("LeadBallsModel", "owns", "[J", true)
  | 39 => ("LeadBallsModel", "nHouse", "[J", true)
  | 40 => ("LeadBallsModel", "nWire", "[J", true)
  | 41 => ("LeadBallsModel", "nCellar", "[J", true)
  | 42 => ("LeadBallsModel", "wires", "[J", true)
  | 43 => ("LeadBallsModel", "cellars", "[J", true)
  | 44 => ("LeadBallsModel", "nSays", "[I", true)
  | 45 => ("LeadBallsModel", "nSpan", "[I", true)
  | 46 => ("LeadBallsModel", "says", "[I", true)
  | 47 => ("LeadBallsModel", "span", "[I", true)
  | 48 => ("LeadBallsModel", "nHouses", "I", false)
  | 49 => ("LeadBallsModel", "houses", "I", false)
  | 50 => ("LeadBallsModel", "nName", "[J", true)
  | 51 => ("LeadBallsModel", "nWhat", "[I", true)
  | 52 => ("LeadBallsModel", "nNumber", "[I", true)
  | 53 => ("LeadBallsModel", "nBegin", "[I", true)
  | 54 => ("LeadBallsModel", "nPrints", "[I", true)
  | 55 => ("LeadBallsModel", "whats", "[I", true)
  | 56 => ("LeadBallsModel", "counted", "[I", true)
  | 57 => ("LeadBallsModel", "begin", "[I", true)
  | 58 => ("LeadBallsModel", "prints", "[I", true)
  | 59 => ("LeadBallsModel", "waits", "[I", true)
  | 60 => ("LeadBallsModel", "pile", "[I", true)
  | 61 => ("LeadBallsModel", "comes", "[I", true)
  | 62 => ("LeadBallsModel", "nNotes", "I", false)
  | 63 => ("LeadBallsModel", "nUnits", "I", false)
  | 64 => ("LeadBallsModel", "nSum", "I", false)
  | 65 => ("LeadBallsModel", "units", "I", false)
  | 66 => ("LeadBallsModel", "sumMany", "I", false)
  | 67 => ("LeadBallsModel", "waiting", "I", false)
  | 68 => ("LeadBallsModel", "deep", "I", false)
  | 69 => ("LeadBallsModel", "isTold", "[Z", true)
  | 70 => ("LeadBallsModel", "didShow", "[Z", true)
  | _ => ("LeadBallsModel", "tells", "[I", true)
def tyX9 : Nat → FieldType := fun k => match k with
  | 0 => .array .int
  | 1 => .int
  | 2 => .int
  | 3 => .int
  | 4 => .int
  | 5 => .int
  | 6 => .int
  | 7 => .int
  | 8 => .int
  | 9 => .long
  | 10 => .boolean
  | 11 => .array .int
  | 12 => .array .int
  | 13 => .array .int
  | 14 => .array .int
  | 15 => .array .boolean
  | 16 => .array .long
  | 17 => .array .long
  | 18 => .int
  | 19 => .int
  | 20 => .int
  | 21 => .int
  | 22 => .int
  | 23 => .long
  | 24 => .long
  | 25 => .array .int
  | 26 => .array .int
  | 27 => .array .int
  | 28 => .array .int
  | 29 => .array .int
  | 30 => .int
  | 31 => .int
  | 32 => .array .long
  | 33 => .array .long
  | 34 => .array .long
  | 35 => .array .long
  | 36 => .long
  | 37 => .array .long
  | 38 => .array .long
  | 39 => .array .long
  | 40 => .array .long
  | 41 => .array .long
  | 42 => .array .long
  | 43 => .array .long
  | 44 => .array .int
  | 45 => .array .int
  | 46 => .array .int
  | 47 => .array .int
  | 48 => .int
  | 49 => .int
  | 50 => .array .long
  | 51 => .array .int
  | 52 => .array .int
  | 53 => .array .int
  | 54 => .array .int
  | 55 => .array .int
  | 56 => .array .int
  | 57 => .array .int
  | 58 => .array .int
  | 59 => .array .int
  | 60 => .array .int
  | 61 => .array .int
  | 62 => .int
  | 63 => .int
  | 64 => .int
  | 65 => .int
  | 66 => .int
  | 67 => .int
  | 68 => .int
  | 69 => .array .boolean
  | 70 => .array .boolean
  | _ => .array .int
abbrev wsX90 : List Cond := u_ws RX9 TX9 72
theorem nmX9 : ∀ a, a < 72 → ∀ b, b < 72 → a ≠ b → (TX9 a).2.1 ≠ (TX9 b).2.1 := by decide +kernel
theorem tyX9_ok : ∀ k, k < 72 → parseFieldDescriptor (TX9 k).2.2.1 = some (tyX9 k) := by decide +kernel
abbrev cX9_init : ByteArray := prog_11_method_1_code
def yX9_init : MethodName := ⟨RX9, "<init>", "()V"⟩
abbrev cX9_feed : ByteArray := prog_11_method_2_code
def yX9_feed : MethodName := ⟨RX9, "feed", "(IIIII)I"⟩
abbrev cX9_four : ByteArray := prog_11_method_3_code
def yX9_four : MethodName := ⟨RX9, "four", "(I)V"⟩
abbrev cX9_end : ByteArray := prog_11_method_4_code
def yX9_end : MethodName := ⟨RX9, "end", "(I)I"⟩
abbrev cX9_here : ByteArray := prog_11_method_5_code
def yX9_here : MethodName := ⟨RX9, "here", "(I)I"⟩
abbrev cX9_isLetter : ByteArray := prog_11_method_6_code
def yX9_isLetter : MethodName := ⟨RX9, "isLetter", "(I)Z"⟩
abbrev cX9_isDigit : ByteArray := prog_11_method_7_code
def yX9_isDigit : MethodName := ⟨RX9, "isDigit", "(I)Z"⟩
abbrev cX9_isSign : ByteArray := prog_11_method_8_code
def yX9_isSign : MethodName := ⟨RX9, "isSign", "(I)Z"⟩
abbrev cX9_token : ByteArray := prog_11_method_9_code
def yX9_token : MethodName := ⟨RX9, "token", "()V"⟩
abbrev cX9_wrong : ByteArray := prog_11_method_10_code
def yX9_wrong : MethodName := ⟨RX9, "wrong", "(I)V"⟩
abbrev cX9_start : ByteArray := prog_11_method_11_code
def yX9_start : MethodName := ⟨RX9, "start", "(Z)V"⟩
abbrev cX9_isWord : ByteArray := prog_11_method_12_code
def yX9_isWord : MethodName := ⟨RX9, "isWord", "(J)Z"⟩
abbrev cX9_isName : ByteArray := prog_11_method_13_code
def yX9_isName : MethodName := ⟨RX9, "isName", "()Z"⟩
abbrev cX9_want : ByteArray := prog_11_method_14_code
def yX9_want : MethodName := ⟨RX9, "want", "(J)V"⟩
abbrev cX9_toldNumber : ByteArray := prog_11_method_15_code
def yX9_toldNumber : MethodName := ⟨RX9, "toldNumber", "(II)I"⟩
abbrev cX9_signed : ByteArray := prog_11_method_16_code
def yX9_signed : MethodName := ⟨RX9, "signed", "(II)I"⟩
abbrev cX9_named : ByteArray := prog_11_method_17_code
def yX9_named : MethodName := ⟨RX9, "named", "(Z)J"⟩
abbrev cX9_plain : ByteArray := prog_11_method_18_code
def yX9_plain : MethodName := ⟨RX9, "plain", "()V"⟩
abbrev cX9_plainOf : ByteArray := prog_11_method_19_code
def yX9_plainOf : MethodName := ⟨RX9, "plainOf", "(I)I"⟩
abbrev cX9_which : ByteArray := prog_11_method_20_code
def yX9_which : MethodName := ⟨RX9, "which", "()I"⟩
abbrev cX9_causeOf : ByteArray := prog_11_method_21_code
def yX9_causeOf : MethodName := ⟨RX9, "causeOf", "(J)I"⟩
abbrev cX9_readTold : ByteArray := prog_11_method_22_code
def yX9_readTold : MethodName := ⟨RX9, "readTold", "(I)V"⟩
abbrev cX9_readCause : ByteArray := prog_11_method_23_code
def yX9_readCause : MethodName := ⟨RX9, "readCause", "()V"⟩
abbrev cX9_readTrial : ByteArray := prog_11_method_24_code
def yX9_readTrial : MethodName := ⟨RX9, "readTrial", "()V"⟩
abbrev cX9_shed : ByteArray := prog_11_method_25_code
def yX9_shed : MethodName := ⟨RX9, "shed", "()I"⟩
abbrev cX9_fault : ByteArray := prog_11_method_26_code
def yX9_fault : MethodName := ⟨RX9, "fault", "(I)I"⟩
abbrev cX9_common : ByteArray := prog_11_method_27_code
def yX9_common : MethodName := ⟨RX9, "common", "(JJ)J"⟩
abbrev cX9_down : ByteArray := prog_11_method_28_code
def yX9_down : MethodName := ⟨RX9, "down", "(JJ)J"⟩
abbrev cX9_found : ByteArray := prog_11_method_29_code
def yX9_found : MethodName := ⟨RX9, "found", "(JJ)V"⟩
abbrev cX9_part : ByteArray := prog_11_method_30_code
def yX9_part : MethodName := ⟨RX9, "part", "(I)J"⟩
abbrev cX9_isPart : ByteArray := prog_11_method_31_code
def yX9_isPart : MethodName := ⟨RX9, "isPart", "(I)Z"⟩
abbrev cX9_isSide : ByteArray := prog_11_method_32_code
def yX9_isSide : MethodName := ⟨RX9, "isSide", "(I)Z"⟩
abbrev cX9_seekPull : ByteArray := prog_11_method_33_code
def yX9_seekPull : MethodName := ⟨RX9, "seekPull", "()V"⟩
abbrev cX9_seekRest : ByteArray := prog_11_method_34_code
def yX9_seekRest : MethodName := ⟨RX9, "seekRest", "(II)V"⟩
abbrev cX9_rest : ByteArray := prog_11_method_35_code
def yX9_rest : MethodName := ⟨RX9, "rest", "(III)J"⟩
abbrev cX9_turning : ByteArray := prog_11_method_36_code
def yX9_turning : MethodName := ⟨RX9, "turning", "(IIII)J"⟩
abbrev cX9_had : ByteArray := prog_11_method_37_code
def yX9_had : MethodName := ⟨RX9, "had", "(IIIII)J"⟩
abbrev cX9_reading : ByteArray := prog_11_method_38_code
def yX9_reading : MethodName := ⟨RX9, "reading", "(III)I"⟩
abbrev cX9_untell : ByteArray := prog_11_method_39_code
def yX9_untell : MethodName := ⟨RX9, "untell", "(I)Z"⟩
abbrev cX9_later : ByteArray := prog_11_method_40_code
def yX9_later : MethodName := ⟨RX9, "later", "(I)I"⟩
abbrev cX9_counts : ByteArray := prog_11_method_41_code
def yX9_counts : MethodName := ⟨RX9, "counts", "(II)Z"⟩
abbrev cX9_goes : ByteArray := prog_11_method_42_code
def yX9_goes : MethodName := ⟨RX9, "goes", "(II)I"⟩
abbrev cX9_two : ByteArray := prog_11_method_43_code
def yX9_two : MethodName := ⟨RX9, "two", "(IIII)J"⟩
abbrev cX9_three : ByteArray := prog_11_method_44_code
def yX9_three : MethodName := ⟨RX9, "three", "(IIIIII)J"⟩
abbrev cX9_determinant : ByteArray := prog_11_method_45_code
def yX9_determinant : MethodName := ⟨RX9, "determinant", "(II)J"⟩
abbrev cX9_seekFit : ByteArray := prog_11_method_46_code
def yX9_seekFit : MethodName := ⟨RX9, "seekFit", "(II)V"⟩
abbrev cX9_offOf : ByteArray := prog_11_method_47_code
def yX9_offOf : MethodName := ⟨RX9, "offOf", "(I)J"⟩
abbrev cX9_fit : ByteArray := prog_11_method_48_code
def yX9_fit : MethodName := ⟨RX9, "fit", "(IIII)J"⟩
abbrev cX9_world : ByteArray := prog_11_method_49_code
def yX9_world : MethodName := ⟨RX9, "world", "(I)J"⟩
abbrev cX9_sized : ByteArray := prog_11_method_50_code
def yX9_sized : MethodName := ⟨RX9, "sized", "(J)J"⟩
abbrev cX9_ones : ByteArray := prog_11_method_51_code
def yX9_ones : MethodName := ⟨RX9, "ones", "(I)I"⟩
abbrev cX9_weigh : ByteArray := prog_11_method_52_code
def yX9_weigh : MethodName := ⟨RX9, "weigh", "(II)V"⟩
abbrev cX9_isLess : ByteArray := prog_11_method_53_code
def yX9_isLess : MethodName := ⟨RX9, "isLess", "()Z"⟩
abbrev cX9_order : ByteArray := prog_11_method_54_code
def yX9_order : MethodName := ⟨RX9, "order", "(I)I"⟩
abbrev cX9_readHouse : ByteArray := prog_11_method_55_code
def yX9_readHouse : MethodName := ⟨RX9, "readHouse", "()V"⟩
abbrev cX9_houses : ByteArray := prog_11_method_56_code
def yX9_houses : MethodName := ⟨RX9, "houses", "()I"⟩
abbrev cX9_moreOf : ByteArray := prog_11_method_57_code
def yX9_moreOf : MethodName := ⟨RX9, "moreOf", "(I)I"⟩
abbrev cX9_outOf : ByteArray := prog_11_method_58_code
def yX9_outOf : MethodName := ⟨RX9, "outOf", "()I"⟩
abbrev cX9_partsOf : ByteArray := prog_11_method_59_code
def yX9_partsOf : MethodName := ⟨RX9, "partsOf", "()I"⟩
abbrev cX9_agree : ByteArray := prog_11_method_60_code
def yX9_agree : MethodName := ⟨RX9, "agree", "(I)I"⟩
abbrev cX9_note : ByteArray := prog_11_method_61_code
def yX9_note : MethodName := ⟨RX9, "note", "(II)V"⟩
abbrev cX9_upper : ByteArray := prog_11_method_62_code
def yX9_upper : MethodName := ⟨RX9, "upper", "()I"⟩
abbrev cX9_rank : ByteArray := prog_11_method_63_code
def yX9_rank : MethodName := ⟨RX9, "rank", "(I)I"⟩
abbrev cX9_settle : ByteArray := prog_11_method_64_code
def yX9_settle : MethodName := ⟨RX9, "settle", "(I)V"⟩
abbrev cX9_isOpen : ByteArray := prog_11_method_65_code
def yX9_isOpen : MethodName := ⟨RX9, "isOpen", "()Z"⟩
abbrev cX9_lineOf : ByteArray := prog_11_method_66_code
def yX9_lineOf : MethodName := ⟨RX9, "lineOf", "(J)I"⟩
abbrev cX9_unit : ByteArray := prog_11_method_67_code
def yX9_unit : MethodName := ⟨RX9, "unit", "()Z"⟩
abbrev cX9_sign : ByteArray := prog_11_method_68_code
def yX9_sign : MethodName := ⟨RX9, "sign", "()Z"⟩
abbrev cX9_readLine : ByteArray := prog_11_method_69_code
def yX9_readLine : MethodName := ⟨RX9, "readLine", "()V"⟩
abbrev cX9_sum : ByteArray := prog_11_method_70_code
def yX9_sum : MethodName := ⟨RX9, "sum", "()I"⟩
abbrev cX9_worked : ByteArray := prog_11_method_71_code
def yX9_worked : MethodName := ⟨RX9, "worked", "(III)I"⟩
abbrev cX9_eOf : ByteArray := prog_11_method_72_code
def yX9_eOf : MethodName := ⟨RX9, "eOf", "(I[I)I"⟩
abbrev cX9_slipOf : ByteArray := prog_11_method_73_code
def yX9_slipOf : MethodName := ⟨RX9, "slipOf", "(I)I"⟩
abbrev cX9_without : ByteArray := prog_11_method_74_code
def yX9_without : MethodName := ⟨RX9, "without", "(I)I"⟩
abbrev cX9_line : ByteArray := prog_11_method_75_code
def yX9_line : MethodName := ⟨RX9, "line", "(II)J"⟩
abbrev cX9_right : ByteArray := prog_11_method_76_code
def yX9_right : MethodName := ⟨RX9, "right", "()J"⟩
abbrev cX9_result : ByteArray := prog_11_method_77_code
def yX9_result : MethodName := ⟨RX9, "result", "(IZ)Z"⟩
abbrev cX9_mayBe : ByteArray := prog_11_method_78_code
def yX9_mayBe : MethodName := ⟨RX9, "mayBe", "()I"⟩
abbrev cX9_maybe : ByteArray := prog_11_method_79_code
def yX9_maybe : MethodName := ⟨RX9, "maybe", "()I"⟩
abbrev cX9_next : ByteArray := prog_11_method_80_code
def yX9_next : MethodName := ⟨RX9, "next", "()I"⟩
abbrev cX9_fewest : ByteArray := prog_11_method_81_code
def yX9_fewest : MethodName := ⟨RX9, "fewest", "()I"⟩
abbrev cX9_about : ByteArray := prog_11_method_82_code
def yX9_about : MethodName := ⟨RX9, "about", "(I)I"⟩
def RJx8e188 : String := "java/lang/Cloneable"
def RJ6 : String := "java/lang/Integer"
abbrev cJ6_bitCount_0f7a4 : ByteArray := prog_13_method_49_code
def yJ6_bitCount_0f7a4 : MethodName := ⟨RJ6, "bitCount", "(I)I"⟩
def RJ9 : String := "java/lang/Math"
abbrev cJ9_floorDiv_f86c9 : ByteArray := prog_14_method_49_code
def yJ9_floorDiv_f86c9 : MethodName := ⟨RJ9, "floorDiv", "(JJ)J"⟩
abbrev cJ9_abs_0f7a4 : ByteArray := prog_14_method_59_code
def yJ9_abs_0f7a4 : MethodName := ⟨RJ9, "abs", "(I)I"⟩
abbrev cJ9_abs_067f4 : ByteArray := prog_14_method_61_code
def yJ9_abs_067f4 : MethodName := ⟨RJ9, "abs", "(J)J"⟩
abbrev cJ9_max_7cf53 : ByteArray := prog_14_method_65_code
def yJ9_max_7cf53 : MethodName := ⟨RJ9, "max", "(II)I"⟩
abbrev cJ9_max_f86c9 : ByteArray := prog_14_method_66_code
def yJ9_max_f86c9 : MethodName := ⟨RJ9, "max", "(JJ)J"⟩
abbrev cJ9_min_7cf53 : ByteArray := prog_14_method_69_code
def yJ9_min_7cf53 : MethodName := ⟨RJ9, "min", "(II)I"⟩
def RJ0 : String := "java/lang/String"
abbrev cJ0_length_8abf5 : ByteArray := prog_15_method_54_code
def yJ0_length_8abf5 : MethodName := ⟨RJ0, "length", "()I"⟩
abbrev cJ0_charAt_5068e : ByteArray := prog_15_method_56_code
def yJ0_charAt_5068e : MethodName := ⟨RJ0, "charAt", "(I)C"⟩
abbrev cJ0_coder_7d493 : ByteArray := prog_15_method_152_code
def yJ0_coder_7d493 : MethodName := ⟨RJ0, "coder", "()B"⟩
abbrev cJ0_isLatin1_aae02 : ByteArray := prog_15_method_154_code
def yJ0_isLatin1_aae02 : MethodName := ⟨RJ0, "isLatin1", "()Z"⟩
abbrev cJ0_checkIndex_df160 : ByteArray := prog_15_method_155_code
def yJ0_checkIndex_df160 : MethodName := ⟨RJ0, "checkIndex", "(II)V"⟩
def RJ1 : String := "java/lang/StringLatin1"
abbrev cJ1_charAt_3b067 : ByteArray := prog_16_method_2_code
def yJ1_charAt_3b067 : MethodName := ⟨RJ1, "charAt", "([BI)C"⟩
def RJ2 : String := "java/lang/StringUTF16"
abbrev cJ2_getChar_3b067 : ByteArray := prog_17_method_5_code
def yJ2_getChar_3b067 : MethodName := ⟨RJ2, "getChar", "([BI)C"⟩
abbrev cJ2_length_9d52b : ByteArray := prog_17_method_6_code
def yJ2_length_9d52b : MethodName := ⟨RJ2, "length", "([B)I"⟩
abbrev cJ2_charAt_3b067 : ByteArray := prog_17_method_83_code
def yJ2_charAt_3b067 : MethodName := ⟨RJ2, "charAt", "([BI)C"⟩
abbrev cJ2_checkIndex_2214a : ByteArray := prog_17_method_91_code
def yJ2_checkIndex_2214a : MethodName := ⟨RJ2, "checkIndex", "(I[B)V"⟩
def RJ10 : String := "java/lang/System"
def RJ3 : String := "jdk/internal/util/Preconditions"
abbrev cJ3_checkIndex_8e157 : ByteArray := prog_19_method_11_code
def yJ3_checkIndex_8e157 : MethodName := ⟨RJ3, "checkIndex", "(IILjava/util/function/BiFunction;)I"⟩
def RL : String := "LeadBallsLaw"
abbrev cL_law : ByteArray := code
def yL_law : MethodName := ⟨RL, "law", "([I)Z"⟩
abbrev vwCl : List vw_C := [(RX0, TX0, 8), (RX1, TX1, 5), (RX2, TX2, 7), (RX3, TX3, 12), (RX4, TX4, 7), (RX5, TX5, 4), (RX6, TX6, 12), (RX7, TX7, 2), (RX8, TX8, 11), (RX9, TX9, 72)]
