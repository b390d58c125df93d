section
-- ===== PART A: goes FIRST, ahead of the names: the tables' words, and 'selects' of the private methods out of them =====
/-- a private method of a class that the tables say can be made, by its rows of tables_1 -/
def lw_okq (q : MethodName × Nat) : Prop := (q.1.cls ≠ "java/lang/invoke/MethodHandle" ∧ q.1.cls ≠ "java/lang/invoke/VarHandle") ∧ Cond.instantiable q.1.cls q.2 ∈ tables_1 ∧ Cond.privateMethod q.1 ∈ tables_1 ∧ Cond.instanceMethod q.1 ∈ tables_1
theorem lw_p0 : lw_okq (⟨"BenchSeats", "isSitter", "(I)Z"⟩, 10) := ⟨⟨by decide +kernel, by decide +kernel⟩, List.mem_of_getElem? (i := 20) (by decide +kernel), List.mem_of_getElem? (i := 344) (by decide +kernel), List.mem_of_getElem? (i := 345) (by decide +kernel)⟩
theorem lw_p1 : lw_okq (⟨"BenchSeats", "isPlace", "(I)Z"⟩, 10) := ⟨⟨by decide +kernel, by decide +kernel⟩, List.mem_of_getElem? (i := 20) (by decide +kernel), List.mem_of_getElem? (i := 413) (by decide +kernel), List.mem_of_getElem? (i := 414) (by decide +kernel)⟩
theorem lw_p2 : lw_okq (⟨"BenchSeats$Outlook", "joined", "(III)I"⟩, 4) := ⟨⟨by decide +kernel, by decide +kernel⟩, List.mem_of_getElem? (i := 142) (by decide +kernel), List.mem_of_getElem? (i := 534) (by decide +kernel), List.mem_of_getElem? (i := 535) (by decide +kernel)⟩
theorem lw_p3 : lw_okq (⟨"BenchSeats$Outlook", "gatherGains", "(LBenchSeats$Inn;I)V"⟩, 4) := ⟨⟨by decide +kernel, by decide +kernel⟩, List.mem_of_getElem? (i := 142) (by decide +kernel), List.mem_of_getElem? (i := 557) (by decide +kernel), List.mem_of_getElem? (i := 558) (by decide +kernel)⟩
theorem lw_p4 : lw_okq (⟨"BenchSeats$Outlook", "noteGain", "(II)V"⟩, 4) := ⟨⟨by decide +kernel, by decide +kernel⟩, List.mem_of_getElem? (i := 142) (by decide +kernel), List.mem_of_getElem? (i := 561) (by decide +kernel), List.mem_of_getElem? (i := 562) (by decide +kernel)⟩
theorem lw_p5 : lw_okq (⟨"BenchSeats$Outlook", "spreadGain", "(LBenchSeats$Inn;II)V"⟩, 4) := ⟨⟨by decide +kernel, by decide +kernel⟩, List.mem_of_getElem? (i := 142) (by decide +kernel), List.mem_of_getElem? (i := 565) (by decide +kernel), List.mem_of_getElem? (i := 566) (by decide +kernel)⟩
theorem lw_p6 : lw_okq (⟨"BenchSeats", "refusalOf", "(I)I"⟩, 10) := ⟨⟨by decide +kernel, by decide +kernel⟩, List.mem_of_getElem? (i := 20) (by decide +kernel), List.mem_of_getElem? (i := 607) (by decide +kernel), List.mem_of_getElem? (i := 608) (by decide +kernel)⟩
theorem lw_p7 : lw_okq (⟨"BenchSeats$Tape", "begin", "()V"⟩, 14) := ⟨⟨by decide +kernel, by decide +kernel⟩, List.mem_of_getElem? (i := 163) (by decide +kernel), List.mem_of_getElem? (i := 647) (by decide +kernel), List.mem_of_getElem? (i := 648) (by decide +kernel)⟩
theorem lw_p8 : lw_okq (⟨"BenchSeats$Tape", "advance", "()V"⟩, 14) := ⟨⟨by decide +kernel, by decide +kernel⟩, List.mem_of_getElem? (i := 163) (by decide +kernel), List.mem_of_getElem? (i := 651) (by decide +kernel), List.mem_of_getElem? (i := 652) (by decide +kernel)⟩
theorem lw_p9 : lw_okq (⟨"BenchSeats$Tape", "keyHere", "()I"⟩, 14) := ⟨⟨by decide +kernel, by decide +kernel⟩, List.mem_of_getElem? (i := 163) (by decide +kernel), List.mem_of_getElem? (i := 658) (by decide +kernel), List.mem_of_getElem? (i := 659) (by decide +kernel)⟩
theorem lw_p10 : lw_okq (⟨"BenchSeats$Tape", "isHere", "(Ljava/lang/String;)Z"⟩, 14) := ⟨⟨by decide +kernel, by decide +kernel⟩, List.mem_of_getElem? (i := 163) (by decide +kernel), List.mem_of_getElem? (i := 663) (by decide +kernel), List.mem_of_getElem? (i := 664) (by decide +kernel)⟩
theorem lw_p11 : lw_okq (⟨"BenchSeats$Tape", "takesPiece", "()Z"⟩, 14) := ⟨⟨by decide +kernel, by decide +kernel⟩, List.mem_of_getElem? (i := 163) (by decide +kernel), List.mem_of_getElem? (i := 717) (by decide +kernel), List.mem_of_getElem? (i := 718) (by decide +kernel)⟩
theorem lw_p12 : lw_okq (⟨"BenchSeats$Tape", "takesNumber", "()Z"⟩, 14) := ⟨⟨by decide +kernel, by decide +kernel⟩, List.mem_of_getElem? (i := 163) (by decide +kernel), List.mem_of_getElem? (i := 721) (by decide +kernel), List.mem_of_getElem? (i := 722) (by decide +kernel)⟩
theorem lw_p13 : lw_okq (⟨"BenchSeats$Tape", "writeThing", "(I)V"⟩, 14) := ⟨⟨by decide +kernel, by decide +kernel⟩, List.mem_of_getElem? (i := 163) (by decide +kernel), List.mem_of_getElem? (i := 725) (by decide +kernel), List.mem_of_getElem? (i := 726) (by decide +kernel)⟩
theorem lw_p14 : lw_okq (⟨"BenchSeats$Tape", "write", "(I)V"⟩, 14) := ⟨⟨by decide +kernel, by decide +kernel⟩, List.mem_of_getElem? (i := 163) (by decide +kernel), List.mem_of_getElem? (i := 729) (by decide +kernel), List.mem_of_getElem? (i := 730) (by decide +kernel)⟩
theorem lw_p15 : lw_okq (⟨"BenchSeats$Tape", "pieceStands", "()V"⟩, 14) := ⟨⟨by decide +kernel, by decide +kernel⟩, List.mem_of_getElem? (i := 163) (by decide +kernel), List.mem_of_getElem? (i := 733) (by decide +kernel), List.mem_of_getElem? (i := 734) (by decide +kernel)⟩
def lw_privs_1 : List (MethodName × Nat) := [(⟨"BenchSeats", "isSitter", "(I)Z"⟩, 10), (⟨"BenchSeats", "isPlace", "(I)Z"⟩, 10), (⟨"BenchSeats$Outlook", "joined", "(III)I"⟩, 4), (⟨"BenchSeats$Outlook", "gatherGains", "(LBenchSeats$Inn;I)V"⟩, 4), (⟨"BenchSeats$Outlook", "noteGain", "(II)V"⟩, 4), (⟨"BenchSeats$Outlook", "spreadGain", "(LBenchSeats$Inn;II)V"⟩, 4), (⟨"BenchSeats", "refusalOf", "(I)I"⟩, 10), (⟨"BenchSeats$Tape", "begin", "()V"⟩, 14), (⟨"BenchSeats$Tape", "advance", "()V"⟩, 14), (⟨"BenchSeats$Tape", "keyHere", "()I"⟩, 14), (⟨"BenchSeats$Tape", "isHere", "(Ljava/lang/String;)Z"⟩, 14), (⟨"BenchSeats$Tape", "takesPiece", "()Z"⟩, 14), (⟨"BenchSeats$Tape", "takesNumber", "()Z"⟩, 14), (⟨"BenchSeats$Tape", "writeThing", "(I)V"⟩, 14), (⟨"BenchSeats$Tape", "write", "(I)V"⟩, 14), (⟨"BenchSeats$Tape", "pieceStands", "()V"⟩, 14)]
theorem lw_r1 : ∀ q ∈ lw_privs_1, lw_okq q := List.forall_mem_cons.mpr ⟨lw_p0, List.forall_mem_cons.mpr ⟨lw_p1, List.forall_mem_cons.mpr ⟨lw_p2, List.forall_mem_cons.mpr ⟨lw_p3, List.forall_mem_cons.mpr ⟨lw_p4, List.forall_mem_cons.mpr ⟨lw_p5, List.forall_mem_cons.mpr ⟨lw_p6, List.forall_mem_cons.mpr ⟨lw_p7, List.forall_mem_cons.mpr ⟨lw_p8, List.forall_mem_cons.mpr ⟨lw_p9, List.forall_mem_cons.mpr ⟨lw_p10, List.forall_mem_cons.mpr ⟨lw_p11, List.forall_mem_cons.mpr ⟨lw_p12, List.forall_mem_cons.mpr ⟨lw_p13, List.forall_mem_cons.mpr ⟨lw_p14, List.forall_mem_cons.mpr ⟨lw_p15, fun _ h => absurd h List.not_mem_nil⟩⟩⟩⟩⟩⟩⟩⟩⟩⟩⟩⟩⟩⟩⟩⟩
theorem lw_p16 : lw_okq (⟨"BenchSeats$Tape", "takesName", "()Z"⟩, 14) := ⟨⟨by decide +kernel, by decide +kernel⟩, List.mem_of_getElem? (i := 163) (by decide +kernel), List.mem_of_getElem? (i := 737) (by decide +kernel), List.mem_of_getElem? (i := 738) (by decide +kernel)⟩
theorem lw_p17 : lw_okq (⟨"BenchSeats$Tape", "takesOpening", "(I)Z"⟩, 14) := ⟨⟨by decide +kernel, by decide +kernel⟩, List.mem_of_getElem? (i := 163) (by decide +kernel), List.mem_of_getElem? (i := 801) (by decide +kernel), List.mem_of_getElem? (i := 802) (by decide +kernel)⟩
theorem lw_p18 : lw_okq (⟨"BenchSeats$Tape", "hold", "(I)V"⟩, 14) := ⟨⟨by decide +kernel, by decide +kernel⟩, List.mem_of_getElem? (i := 163) (by decide +kernel), List.mem_of_getElem? (i := 805) (by decide +kernel), List.mem_of_getElem? (i := 806) (by decide +kernel)⟩
theorem lw_p19 : lw_okq (⟨"BenchSeats$Tape", "takesSign", "()Z"⟩, 14) := ⟨⟨by decide +kernel, by decide +kernel⟩, List.mem_of_getElem? (i := 163) (by decide +kernel), List.mem_of_getElem? (i := 809) (by decide +kernel), List.mem_of_getElem? (i := 810) (by decide +kernel)⟩
theorem lw_p20 : lw_okq (⟨"BenchSeats$Tape", "takesClosing", "()Z"⟩, 14) := ⟨⟨by decide +kernel, by decide +kernel⟩, List.mem_of_getElem? (i := 163) (by decide +kernel), List.mem_of_getElem? (i := 813) (by decide +kernel), List.mem_of_getElem? (i := 814) (by decide +kernel)⟩
theorem lw_p21 : lw_okq (⟨"BenchSeats$Tape", "settle", "(I)V"⟩, 14) := ⟨⟨by decide +kernel, by decide +kernel⟩, List.mem_of_getElem? (i := 163) (by decide +kernel), List.mem_of_getElem? (i := 817) (by decide +kernel), List.mem_of_getElem? (i := 818) (by decide +kernel)⟩
theorem lw_p22 : lw_okq (⟨"BenchSeats", "compare", "(II)I"⟩, 10) := ⟨⟨by decide +kernel, by decide +kernel⟩, List.mem_of_getElem? (i := 20) (by decide +kernel), List.mem_of_getElem? (i := 936) (by decide +kernel), List.mem_of_getElem? (i := 937) (by decide +kernel)⟩
theorem lw_p23 : lw_okq (⟨"BenchSeatsModel", "manySit", "()I"⟩, 35) := ⟨⟨by decide +kernel, by decide +kernel⟩, List.mem_of_getElem? (i := 952) (by decide +kernel), List.mem_of_getElem? (i := 1074) (by decide +kernel), List.mem_of_getElem? (i := 1075) (by decide +kernel)⟩
theorem lw_p24 : lw_okq (⟨"BenchSeatsModel", "of", "(II)I"⟩, 35) := ⟨⟨by decide +kernel, by decide +kernel⟩, List.mem_of_getElem? (i := 952) (by decide +kernel), List.mem_of_getElem? (i := 1078) (by decide +kernel), List.mem_of_getElem? (i := 1079) (by decide +kernel)⟩
theorem lw_p25 : lw_okq (⟨"BenchSeatsModel", "put", "(III)V"⟩, 35) := ⟨⟨by decide +kernel, by decide +kernel⟩, List.mem_of_getElem? (i := 952) (by decide +kernel), List.mem_of_getElem? (i := 1082) (by decide +kernel), List.mem_of_getElem? (i := 1083) (by decide +kernel)⟩
theorem lw_p26 : lw_okq (⟨"BenchSeatsModel", "comes", "(I)I"⟩, 35) := ⟨⟨by decide +kernel, by decide +kernel⟩, List.mem_of_getElem? (i := 952) (by decide +kernel), List.mem_of_getElem? (i := 1091) (by decide +kernel), List.mem_of_getElem? (i := 1092) (by decide +kernel)⟩
theorem lw_p27 : lw_okq (⟨"BenchSeatsModel", "isSitter", "(I)Z"⟩, 35) := ⟨⟨by decide +kernel, by decide +kernel⟩, List.mem_of_getElem? (i := 952) (by decide +kernel), List.mem_of_getElem? (i := 1099) (by decide +kernel), List.mem_of_getElem? (i := 1100) (by decide +kernel)⟩
theorem lw_p28 : lw_okq (⟨"BenchSeatsModel", "setOf", "(I)I"⟩, 35) := ⟨⟨by decide +kernel, by decide +kernel⟩, List.mem_of_getElem? (i := 952) (by decide +kernel), List.mem_of_getElem? (i := 1103) (by decide +kernel), List.mem_of_getElem? (i := 1104) (by decide +kernel)⟩
theorem lw_p29 : lw_okq (⟨"BenchSeatsModel", "setAt", "(II)I"⟩, 35) := ⟨⟨by decide +kernel, by decide +kernel⟩, List.mem_of_getElem? (i := 952) (by decide +kernel), List.mem_of_getElem? (i := 1107) (by decide +kernel), List.mem_of_getElem? (i := 1108) (by decide +kernel)⟩
theorem lw_p30 : lw_okq (⟨"BenchSeatsModel", "placesOf", "(I)I"⟩, 35) := ⟨⟨by decide +kernel, by decide +kernel⟩, List.mem_of_getElem? (i := 952) (by decide +kernel), List.mem_of_getElem? (i := 1114) (by decide +kernel), List.mem_of_getElem? (i := 1115) (by decide +kernel)⟩
theorem lw_p31 : lw_okq (⟨"BenchSeatsModel", "taken", "()I"⟩, 35) := ⟨⟨by decide +kernel, by decide +kernel⟩, List.mem_of_getElem? (i := 952) (by decide +kernel), List.mem_of_getElem? (i := 1118) (by decide +kernel), List.mem_of_getElem? (i := 1119) (by decide +kernel)⟩
def lw_privs_2 : List (MethodName × Nat) := [(⟨"BenchSeats$Tape", "takesName", "()Z"⟩, 14), (⟨"BenchSeats$Tape", "takesOpening", "(I)Z"⟩, 14), (⟨"BenchSeats$Tape", "hold", "(I)V"⟩, 14), (⟨"BenchSeats$Tape", "takesSign", "()Z"⟩, 14), (⟨"BenchSeats$Tape", "takesClosing", "()Z"⟩, 14), (⟨"BenchSeats$Tape", "settle", "(I)V"⟩, 14), (⟨"BenchSeats", "compare", "(II)I"⟩, 10), (⟨"BenchSeatsModel", "manySit", "()I"⟩, 35), (⟨"BenchSeatsModel", "of", "(II)I"⟩, 35), (⟨"BenchSeatsModel", "put", "(III)V"⟩, 35), (⟨"BenchSeatsModel", "comes", "(I)I"⟩, 35), (⟨"BenchSeatsModel", "isSitter", "(I)Z"⟩, 35), (⟨"BenchSeatsModel", "setOf", "(I)I"⟩, 35), (⟨"BenchSeatsModel", "setAt", "(II)I"⟩, 35), (⟨"BenchSeatsModel", "placesOf", "(I)I"⟩, 35), (⟨"BenchSeatsModel", "taken", "()I"⟩, 35)]
theorem lw_r2 : ∀ q ∈ lw_privs_2, lw_okq q := List.forall_mem_cons.mpr ⟨lw_p16, List.forall_mem_cons.mpr ⟨lw_p17, List.forall_mem_cons.mpr ⟨lw_p18, List.forall_mem_cons.mpr ⟨lw_p19, List.forall_mem_cons.mpr ⟨lw_p20, List.forall_mem_cons.mpr ⟨lw_p21, List.forall_mem_cons.mpr ⟨lw_p22, List.forall_mem_cons.mpr ⟨lw_p23, List.forall_mem_cons.mpr ⟨lw_p24, List.forall_mem_cons.mpr ⟨lw_p25, List.forall_mem_cons.mpr ⟨lw_p26, List.forall_mem_cons.mpr ⟨lw_p27, List.forall_mem_cons.mpr ⟨lw_p28, List.forall_mem_cons.mpr ⟨lw_p29, List.forall_mem_cons.mpr ⟨lw_p30, List.forall_mem_cons.mpr ⟨lw_p31, fun _ h => absurd h List.not_mem_nil⟩⟩⟩⟩⟩⟩⟩⟩⟩⟩⟩⟩⟩⟩⟩⟩
theorem lw_p32 : lw_okq (⟨"BenchSeatsModel", "may", "(III)Z"⟩, 35) := ⟨⟨by decide +kernel, by decide +kernel⟩, List.mem_of_getElem? (i := 952) (by decide +kernel), List.mem_of_getElem? (i := 1122) (by decide +kernel), List.mem_of_getElem? (i := 1123) (by decide +kernel)⟩
theorem lw_p33 : lw_okq (⟨"BenchSeatsModel", "isSome", "(II)Z"⟩, 35) := ⟨⟨by decide +kernel, by decide +kernel⟩, List.mem_of_getElem? (i := 952) (by decide +kernel), List.mem_of_getElem? (i := 1126) (by decide +kernel), List.mem_of_getElem? (i := 1127) (by decide +kernel)⟩
theorem lw_p34 : lw_okq (⟨"BenchSeatsModel", "isPlace", "(I)Z"⟩, 35) := ⟨⟨by decide +kernel, by decide +kernel⟩, List.mem_of_getElem? (i := 952) (by decide +kernel), List.mem_of_getElem? (i := 1130) (by decide +kernel), List.mem_of_getElem? (i := 1131) (by decide +kernel)⟩
theorem lw_p35 : lw_okq (⟨"BenchSeatsModel", "isByFriend", "(I)Z"⟩, 35) := ⟨⟨by decide +kernel, by decide +kernel⟩, List.mem_of_getElem? (i := 952) (by decide +kernel), List.mem_of_getElem? (i := 1137) (by decide +kernel), List.mem_of_getElem? (i := 1138) (by decide +kernel)⟩
theorem lw_p36 : lw_okq (⟨"BenchSeatsModel", "worthOf", "(I)I"⟩, 35) := ⟨⟨by decide +kernel, by decide +kernel⟩, List.mem_of_getElem? (i := 952) (by decide +kernel), List.mem_of_getElem? (i := 1141) (by decide +kernel), List.mem_of_getElem? (i := 1142) (by decide +kernel)⟩
theorem lw_p37 : lw_okq (⟨"BenchSeatsModel", "becomes", "(II)I"⟩, 35) := ⟨⟨by decide +kernel, by decide +kernel⟩, List.mem_of_getElem? (i := 952) (by decide +kernel), List.mem_of_getElem? (i := 1158) (by decide +kernel), List.mem_of_getElem? (i := 1159) (by decide +kernel)⟩
theorem lw_p38 : lw_okq (⟨"BenchSeatsModel", "sitsDown", "(II)I"⟩, 35) := ⟨⟨by decide +kernel, by decide +kernel⟩, List.mem_of_getElem? (i := 952) (by decide +kernel), List.mem_of_getElem? (i := 1166) (by decide +kernel), List.mem_of_getElem? (i := 1167) (by decide +kernel)⟩
theorem lw_p39 : lw_okq (⟨"BenchSeatsModel", "paysAt", "(II)I"⟩, 35) := ⟨⟨by decide +kernel, by decide +kernel⟩, List.mem_of_getElem? (i := 952) (by decide +kernel), List.mem_of_getElem? (i := 1170) (by decide +kernel), List.mem_of_getElem? (i := 1171) (by decide +kernel)⟩
theorem lw_p40 : lw_okq (⟨"BenchSeatsModel", "counts", "(I)I"⟩, 35) := ⟨⟨by decide +kernel, by decide +kernel⟩, List.mem_of_getElem? (i := 952) (by decide +kernel), List.mem_of_getElem? (i := 1174) (by decide +kernel), List.mem_of_getElem? (i := 1175) (by decide +kernel)⟩
theorem lw_p41 : lw_okq (⟨"BenchSeatsModel", "worksOut", "(I)I"⟩, 35) := ⟨⟨by decide +kernel, by decide +kernel⟩, List.mem_of_getElem? (i := 952) (by decide +kernel), List.mem_of_getElem? (i := 1178) (by decide +kernel), List.mem_of_getElem? (i := 1179) (by decide +kernel)⟩
theorem lw_p42 : lw_okq (⟨"BenchSeatsModel", "draw", "()I"⟩, 35) := ⟨⟨by decide +kernel, by decide +kernel⟩, List.mem_of_getElem? (i := 952) (by decide +kernel), List.mem_of_getElem? (i := 1212) (by decide +kernel), List.mem_of_getElem? (i := 1213) (by decide +kernel)⟩
theorem lw_p43 : lw_okq (⟨"BenchSeatsModel", "goesOn", "(I)V"⟩, 35) := ⟨⟨by decide +kernel, by decide +kernel⟩, List.mem_of_getElem? (i := 952) (by decide +kernel), List.mem_of_getElem? (i := 1225) (by decide +kernel), List.mem_of_getElem? (i := 1226) (by decide +kernel)⟩
theorem lw_p44 : lw_okq (⟨"BenchSeatsModel", "minute", "()V"⟩, 35) := ⟨⟨by decide +kernel, by decide +kernel⟩, List.mem_of_getElem? (i := 952) (by decide +kernel), List.mem_of_getElem? (i := 1229) (by decide +kernel), List.mem_of_getElem? (i := 1230) (by decide +kernel)⟩
theorem lw_p45 : lw_okq (⟨"BenchSeatsModel", "comesIn", "()V"⟩, 35) := ⟨⟨by decide +kernel, by decide +kernel⟩, List.mem_of_getElem? (i := 952) (by decide +kernel), List.mem_of_getElem? (i := 1233) (by decide +kernel), List.mem_of_getElem? (i := 1234) (by decide +kernel)⟩
theorem lw_p46 : lw_okq (⟨"BenchSeatsModel", "softest", "(I)I"⟩, 35) := ⟨⟨by decide +kernel, by decide +kernel⟩, List.mem_of_getElem? (i := 952) (by decide +kernel), List.mem_of_getElem? (i := 1243) (by decide +kernel), List.mem_of_getElem? (i := 1244) (by decide +kernel)⟩
theorem lw_p47 : lw_okq (⟨"BenchSeatsModel", "works", "(I)I"⟩, 35) := ⟨⟨by decide +kernel, by decide +kernel⟩, List.mem_of_getElem? (i := 952) (by decide +kernel), List.mem_of_getElem? (i := 1255) (by decide +kernel), List.mem_of_getElem? (i := 1256) (by decide +kernel)⟩
def lw_privs_3 : List (MethodName × Nat) := [(⟨"BenchSeatsModel", "may", "(III)Z"⟩, 35), (⟨"BenchSeatsModel", "isSome", "(II)Z"⟩, 35), (⟨"BenchSeatsModel", "isPlace", "(I)Z"⟩, 35), (⟨"BenchSeatsModel", "isByFriend", "(I)Z"⟩, 35), (⟨"BenchSeatsModel", "worthOf", "(I)I"⟩, 35), (⟨"BenchSeatsModel", "becomes", "(II)I"⟩, 35), (⟨"BenchSeatsModel", "sitsDown", "(II)I"⟩, 35), (⟨"BenchSeatsModel", "paysAt", "(II)I"⟩, 35), (⟨"BenchSeatsModel", "counts", "(I)I"⟩, 35), (⟨"BenchSeatsModel", "worksOut", "(I)I"⟩, 35), (⟨"BenchSeatsModel", "draw", "()I"⟩, 35), (⟨"BenchSeatsModel", "goesOn", "(I)V"⟩, 35), (⟨"BenchSeatsModel", "minute", "()V"⟩, 35), (⟨"BenchSeatsModel", "comesIn", "()V"⟩, 35), (⟨"BenchSeatsModel", "softest", "(I)I"⟩, 35), (⟨"BenchSeatsModel", "works", "(I)I"⟩, 35)]
theorem lw_r3 : ∀ q ∈ lw_privs_3, lw_okq q := List.forall_mem_cons.mpr ⟨lw_p32, List.forall_mem_cons.mpr ⟨lw_p33, List.forall_mem_cons.mpr ⟨lw_p34, List.forall_mem_cons.mpr ⟨lw_p35, List.forall_mem_cons.mpr ⟨lw_p36, List.forall_mem_cons.mpr ⟨lw_p37, List.forall_mem_cons.mpr ⟨lw_p38, List.forall_mem_cons.mpr ⟨lw_p39, List.forall_mem_cons.mpr ⟨lw_p40, List.forall_mem_cons.mpr ⟨lw_p41, List.forall_mem_cons.mpr ⟨lw_p42, List.forall_mem_cons.mpr ⟨lw_p43, List.forall_mem_cons.mpr ⟨lw_p44, List.forall_mem_cons.mpr ⟨lw_p45, List.forall_mem_cons.mpr ⟨lw_p46, List.forall_mem_cons.mpr ⟨lw_p47, fun _ h => absurd h List.not_mem_nil⟩⟩⟩⟩⟩⟩⟩⟩⟩⟩⟩⟩⟩⟩⟩⟩
theorem lw_p48 : lw_okq (⟨"BenchSeatsModel", "worksSet", "(II)I"⟩, 35) := ⟨⟨by decide +kernel, by decide +kernel⟩, List.mem_of_getElem? (i := 952) (by decide +kernel), List.mem_of_getElem? (i := 1259) (by decide +kernel), List.mem_of_getElem? (i := 1260) (by decide +kernel)⟩
theorem lw_p49 : lw_okq (⟨"BenchSeatsModel", "mayOrdinary", "(II)Z"⟩, 35) := ⟨⟨by decide +kernel, by decide +kernel⟩, List.mem_of_getElem? (i := 952) (by decide +kernel), List.mem_of_getElem? (i := 1263) (by decide +kernel), List.mem_of_getElem? (i := 1264) (by decide +kernel)⟩
theorem lw_p50 : lw_okq (⟨"BenchSeatsModel", "thinks", "()V"⟩, 35) := ⟨⟨by decide +kernel, by decide +kernel⟩, List.mem_of_getElem? (i := 952) (by decide +kernel), List.mem_of_getElem? (i := 1280) (by decide +kernel), List.mem_of_getElem? (i := 1281) (by decide +kernel)⟩
theorem lw_p51 : lw_okq (⟨"BenchSeatsModel", "putsBack", "()V"⟩, 35) := ⟨⟨by decide +kernel, by decide +kernel⟩, List.mem_of_getElem? (i := 952) (by decide +kernel), List.mem_of_getElem? (i := 1285) (by decide +kernel), List.mem_of_getElem? (i := 1286) (by decide +kernel)⟩
theorem lw_p52 : lw_okq (⟨"BenchSeatsModel", "isFullUp", "()Z"⟩, 35) := ⟨⟨by decide +kernel, by decide +kernel⟩, List.mem_of_getElem? (i := 952) (by decide +kernel), List.mem_of_getElem? (i := 1293) (by decide +kernel), List.mem_of_getElem? (i := 1294) (by decide +kernel)⟩
theorem lw_p53 : lw_okq (⟨"BenchSeatsModel", "go", "()V"⟩, 35) := ⟨⟨by decide +kernel, by decide +kernel⟩, List.mem_of_getElem? (i := 952) (by decide +kernel), List.mem_of_getElem? (i := 1329) (by decide +kernel), List.mem_of_getElem? (i := 1330) (by decide +kernel)⟩
theorem lw_p54 : lw_okq (⟨"BenchSeatsModel", "isLetter", "(I)Z"⟩, 35) := ⟨⟨by decide +kernel, by decide +kernel⟩, List.mem_of_getElem? (i := 952) (by decide +kernel), List.mem_of_getElem? (i := 1333) (by decide +kernel), List.mem_of_getElem? (i := 1334) (by decide +kernel)⟩
theorem lw_p55 : lw_okq (⟨"BenchSeatsModel", "isFigure", "(I)Z"⟩, 35) := ⟨⟨by decide +kernel, by decide +kernel⟩, List.mem_of_getElem? (i := 952) (by decide +kernel), List.mem_of_getElem? (i := 1337) (by decide +kernel), List.mem_of_getElem? (i := 1338) (by decide +kernel)⟩
theorem lw_p56 : lw_okq (⟨"BenchSeatsModel", "takesKey", "()Z"⟩, 35) := ⟨⟨by decide +kernel, by decide +kernel⟩, List.mem_of_getElem? (i := 952) (by decide +kernel), List.mem_of_getElem? (i := 1341) (by decide +kernel), List.mem_of_getElem? (i := 1342) (by decide +kernel)⟩
theorem lw_p57 : lw_okq (⟨"BenchSeatsModel", "takesE", "()Z"⟩, 35) := ⟨⟨by decide +kernel, by decide +kernel⟩, List.mem_of_getElem? (i := 952) (by decide +kernel), List.mem_of_getElem? (i := 1345) (by decide +kernel), List.mem_of_getElem? (i := 1346) (by decide +kernel)⟩
theorem lw_p58 : lw_okq (⟨"BenchSeatsModel", "takesPart", "()Z"⟩, 35) := ⟨⟨by decide +kernel, by decide +kernel⟩, List.mem_of_getElem? (i := 952) (by decide +kernel), List.mem_of_getElem? (i := 1349) (by decide +kernel), List.mem_of_getElem? (i := 1350) (by decide +kernel)⟩
theorem lw_p59 : lw_okq (⟨"BenchSeatsModel", "nameOf", "(I)I"⟩, 35) := ⟨⟨by decide +kernel, by decide +kernel⟩, List.mem_of_getElem? (i := 952) (by decide +kernel), List.mem_of_getElem? (i := 1353) (by decide +kernel), List.mem_of_getElem? (i := 1354) (by decide +kernel)⟩
theorem lw_p60 : lw_okq (⟨"BenchSeatsModel", "settle", "(I)V"⟩, 35) := ⟨⟨by decide +kernel, by decide +kernel⟩, List.mem_of_getElem? (i := 952) (by decide +kernel), List.mem_of_getElem? (i := 1357) (by decide +kernel), List.mem_of_getElem? (i := 1358) (by decide +kernel)⟩
theorem lw_p61 : lw_okq (⟨"BenchSeatsModel", "notsOpen", "()I"⟩, 35) := ⟨⟨by decide +kernel, by decide +kernel⟩, List.mem_of_getElem? (i := 952) (by decide +kernel), List.mem_of_getElem? (i := 1364) (by decide +kernel), List.mem_of_getElem? (i := 1365) (by decide +kernel)⟩
theorem lw_p62 : lw_okq (⟨"BenchSeatsModel", "signHere", "()I"⟩, 35) := ⟨⟨by decide +kernel, by decide +kernel⟩, List.mem_of_getElem? (i := 952) (by decide +kernel), List.mem_of_getElem? (i := 1368) (by decide +kernel), List.mem_of_getElem? (i := 1369) (by decide +kernel)⟩
def lw_privs_4 : List (MethodName × Nat) := [(⟨"BenchSeatsModel", "worksSet", "(II)I"⟩, 35), (⟨"BenchSeatsModel", "mayOrdinary", "(II)Z"⟩, 35), (⟨"BenchSeatsModel", "thinks", "()V"⟩, 35), (⟨"BenchSeatsModel", "putsBack", "()V"⟩, 35), (⟨"BenchSeatsModel", "isFullUp", "()Z"⟩, 35), (⟨"BenchSeatsModel", "go", "()V"⟩, 35), (⟨"BenchSeatsModel", "isLetter", "(I)Z"⟩, 35), (⟨"BenchSeatsModel", "isFigure", "(I)Z"⟩, 35), (⟨"BenchSeatsModel", "takesKey", "()Z"⟩, 35), (⟨"BenchSeatsModel", "takesE", "()Z"⟩, 35), (⟨"BenchSeatsModel", "takesPart", "()Z"⟩, 35), (⟨"BenchSeatsModel", "nameOf", "(I)I"⟩, 35), (⟨"BenchSeatsModel", "settle", "(I)V"⟩, 35), (⟨"BenchSeatsModel", "notsOpen", "()I"⟩, 35), (⟨"BenchSeatsModel", "signHere", "()I"⟩, 35)]
theorem lw_r4 : ∀ q ∈ lw_privs_4, lw_okq q := List.forall_mem_cons.mpr ⟨lw_p48, List.forall_mem_cons.mpr ⟨lw_p49, List.forall_mem_cons.mpr ⟨lw_p50, List.forall_mem_cons.mpr ⟨lw_p51, List.forall_mem_cons.mpr ⟨lw_p52, List.forall_mem_cons.mpr ⟨lw_p53, List.forall_mem_cons.mpr ⟨lw_p54, List.forall_mem_cons.mpr ⟨lw_p55, List.forall_mem_cons.mpr ⟨lw_p56, List.forall_mem_cons.mpr ⟨lw_p57, List.forall_mem_cons.mpr ⟨lw_p58, List.forall_mem_cons.mpr ⟨lw_p59, List.forall_mem_cons.mpr ⟨lw_p60, List.forall_mem_cons.mpr ⟨lw_p61, List.forall_mem_cons.mpr ⟨lw_p62, fun _ h => absurd h List.not_mem_nil⟩⟩⟩⟩⟩⟩⟩⟩⟩⟩⟩⟩⟩⟩⟩
def lw_privs : List (MethodName × Nat) := lw_privs_1 ++ (lw_privs_2 ++ (lw_privs_3 ++ (lw_privs_4)))
def lw_tbl : List Cond := k2_sels lw_privs ++ tables_1
theorem lw_privs_ok : ∀ q ∈ lw_privs, lw_okq q := by
  show ∀ q ∈ lw_privs_1 ++ (lw_privs_2 ++ (lw_privs_3 ++ (lw_privs_4))), lw_okq q
  exact List.forall_mem_append.mpr ⟨lw_r1, List.forall_mem_append.mpr ⟨lw_r2, List.forall_mem_append.mpr ⟨lw_r3, lw_r4⟩⟩⟩
end
section
def RX0 : String := "BenchSeats$Bench"
def TX0 : u_T := fun k => match k with
  | 0 => ("BenchSeats$Bench", "size", "I", false)
  | 1 => ("BenchSeats$Bench", "ring", "I", false)
  | 2 => ("BenchSeats$Bench", "wall", "I", false)
  | _ => ("BenchSeats$Bench", "all", "I", false)
def tyX0 : Nat → FieldType := fun k => match k with
  | 0 => .int
  | 1 => .int
  | 2 => .int
  | _ => .int
theorem nmX0 : ∀ a, a < 4 → ∀ b, b < 4 → a ≠ b → (TX0 a).2.1 ≠ (TX0 b).2.1 := by decide +kernel
theorem tyX0_ok : ∀ k, k < 4 → parseFieldDescriptor (TX0 k).2.2.1 = some (tyX0 k) := by decide +kernel
abbrev cX0_init : ByteArray := prog_2_method_1_code
def yX0_init : MethodName := ⟨RX0, "<init>", "()V"⟩
abbrev cX0_setUp : ByteArray := prog_2_method_2_code
def yX0_setUp : MethodName := ⟨RX0, "setUp", "(III)V"⟩
abbrev cX0_become : ByteArray := prog_2_method_3_code
def yX0_become : MethodName := ⟨RX0, "become", "(LBenchSeats$Bench;)V"⟩
abbrev cX0_withAhead : ByteArray := prog_2_method_4_code
def yX0_withAhead : MethodName := ⟨RX0, "withAhead", "(II)I"⟩
abbrev cX0_withBehind : ByteArray := prog_2_method_5_code
def yX0_withBehind : MethodName := ⟨RX0, "withBehind", "(II)I"⟩
abbrev cX0_ordinary : ByteArray := prog_2_method_6_code
def yX0_ordinary : MethodName := ⟨RX0, "ordinary", "(I)I"⟩
abbrev cX0_broad : ByteArray := prog_2_method_7_code
def yX0_broad : MethodName := ⟨RX0, "broad", "(IZ)I"⟩
def RX1 : String := "BenchSeats$Inn"
def TX1 : u_T := fun k => match k with
  | 0 => ("BenchSeats$Inn", "bench", "LBenchSeats$Bench;", true)
  | 1 => ("BenchSeats$Inn", "sitters", "[LBenchSeats$Sitter;", true)
  | 2 => ("BenchSeats$Inn", "sitterCount", "I", false)
  | 3 => ("BenchSeats$Inn", "cushions", "[I", true)
  | 4 => ("BenchSeats$Inn", "rules", "[I", true)
  | 5 => ("BenchSeats$Inn", "till", "I", false)
  | 6 => ("BenchSeats$Inn", "minute", "I", false)
  | 7 => ("BenchSeats$Inn", "lot", "I", false)
  | 8 => ("BenchSeats$Inn", "texts", "[LBenchSeats$Text;", true)
  | 9 => ("BenchSeats$Inn", "textCount", "I", false)
  | _ => ("BenchSeats$Inn", "counting", "[I", true)
def tyX1 : Nat → FieldType := fun k => match k with
  | 0 => .object "BenchSeats$Bench"
  | 1 => .array (.object "BenchSeats$Sitter")
  | 2 => .int
  | 3 => .array .int
  | 4 => .array .int
  | 5 => .int
  | 6 => .int
  | 7 => .int
  | 8 => .array (.object "BenchSeats$Text")
  | 9 => .int
  | _ => .array .int
theorem nmX1 : ∀ a, a < 11 → ∀ b, b < 11 → a ≠ b → (TX1 a).2.1 ≠ (TX1 b).2.1 := by decide +kernel
theorem tyX1_ok : ∀ k, k < 11 → parseFieldDescriptor (TX1 k).2.2.1 = some (tyX1 k) := by decide +kernel
abbrev cX1_init : ByteArray := prog_3_method_1_code
def yX1_init : MethodName := ⟨RX1, "<init>", "()V"⟩
abbrev cX1_become : ByteArray := prog_3_method_2_code
def yX1_become : MethodName := ⟨RX1, "become", "(LBenchSeats$Inn;)V"⟩
abbrev cX1_setUp : ByteArray := prog_3_method_3_code
def yX1_setUp : MethodName := ⟨RX1, "setUp", "(III)I"⟩
abbrev cX1_welcome : ByteArray := prog_3_method_4_code
def yX1_welcome : MethodName := ⟨RX1, "welcome", "(I)I"⟩
abbrev cX1_placesOf : ByteArray := prog_3_method_5_code
def yX1_placesOf : MethodName := ⟨RX1, "placesOf", "(LBenchSeats$Sitter;)I"⟩
abbrev cX1_taken : ByteArray := prog_3_method_6_code
def yX1_taken : MethodName := ⟨RX1, "taken", "()I"⟩
abbrev cX1_takenByFriends : ByteArray := prog_3_method_7_code
def yX1_takenByFriends : MethodName := ⟨RX1, "takenByFriends", "()I"⟩
abbrev cX1_seatedCount : ByteArray := prog_3_method_8_code
def yX1_seatedCount : MethodName := ⟨RX1, "seatedCount", "()I"⟩
abbrev cX1_standing : ByteArray := prog_3_method_9_code
def yX1_standing : MethodName := ⟨RX1, "standing", "()I"⟩
abbrev cX1_placesFor : ByteArray := prog_3_method_10_code
def yX1_placesFor : MethodName := ⟨RX1, "placesFor", "(LBenchSeats$Sitter;)I"⟩
abbrev cX1_placesForKind : ByteArray := prog_3_method_11_code
def yX1_placesForKind : MethodName := ⟨RX1, "placesForKind", "(III)I"⟩
abbrev cX1_isShut : ByteArray := prog_3_method_12_code
def yX1_isShut : MethodName := ⟨RX1, "isShut", "()Z"⟩
abbrev cX1_seat : ByteArray := prog_3_method_13_code
def yX1_seat : MethodName := ⟨RX1, "seat", "(LBenchSeats$Sitter;I)I"⟩
abbrev cX1_fare : ByteArray := prog_3_method_14_code
def yX1_fare : MethodName := ⟨RX1, "fare", "(II)I"⟩
abbrev cX1_lawOf : ByteArray := prog_3_method_15_code
def yX1_lawOf : MethodName := ⟨RX1, "lawOf", "(I)LBenchSeats$Text;"⟩
abbrev cX1_enact : ByteArray := prog_3_method_16_code
def yX1_enact : MethodName := ⟨RX1, "enact", "(LBenchSeats$Text;)I"⟩
abbrev cX1_draw : ByteArray := prog_3_method_17_code
def yX1_draw : MethodName := ⟨RX1, "draw", "()I"⟩
abbrev cX1_pass : ByteArray := prog_3_method_18_code
def yX1_pass : MethodName := ⟨RX1, "pass", "(I)I"⟩
abbrev cX1_passOne : ByteArray := prog_3_method_19_code
def yX1_passOne : MethodName := ⟨RX1, "passOne", "()Z"⟩
abbrev cX1_oneComes : ByteArray := prog_3_method_20_code
def yX1_oneComes : MethodName := ⟨RX1, "oneComes", "()Z"⟩
abbrev cX1_choose : ByteArray := prog_3_method_21_code
def yX1_choose : MethodName := ⟨RX1, "choose", "(I)I"⟩
abbrev cX1_nthOf : ByteArray := prog_3_method_22_code
def yX1_nthOf : MethodName := ⟨RX1, "nthOf", "(II)I"⟩
abbrev cX1_oneRises : ByteArray := prog_3_method_23_code
def yX1_oneRises : MethodName := ⟨RX1, "oneRises", "()V"⟩
def RX2 : String := "BenchSeats$Outlook"
def TX2 : u_T := fun k => match k with
  | 0 => ("BenchSeats$Outlook", "from", "[I", true)
  | 1 => ("BenchSeats$Outlook", "bestWith", "[I", true)
  | 2 => ("BenchSeats$Outlook", "bestPlace", "I", false)
  | _ => ("BenchSeats$Outlook", "bestGain", "I", false)
def tyX2 : Nat → FieldType := fun k => match k with
  | 0 => .array .int
  | 1 => .array .int
  | 2 => .int
  | _ => .int
theorem nmX2 : ∀ a, a < 4 → ∀ b, b < 4 → a ≠ b → (TX2 a).2.1 ≠ (TX2 b).2.1 := by decide +kernel
theorem tyX2_ok : ∀ k, k < 4 → parseFieldDescriptor (TX2 k).2.2.1 = some (tyX2 k) := by decide +kernel
abbrev cX2_init : ByteArray := prog_4_method_1_code
def yX2_init : MethodName := ⟨RX2, "<init>", "()V"⟩
abbrev cX2_foresee : ByteArray := prog_4_method_2_code
def yX2_foresee : MethodName := ⟨RX2, "foresee", "(LBenchSeats$Bench;II)I"⟩
abbrev cX2_joined : ByteArray := prog_4_method_3_code
def yX2_joined : MethodName := ⟨RX2, "joined", "(III)I"⟩
abbrev cX2_winning : ByteArray := prog_4_method_4_code
def yX2_winning : MethodName := ⟨RX2, "winning", "(LBenchSeats$Bench;I)I"⟩
abbrev cX2_weigh : ByteArray := prog_4_method_5_code
def yX2_weigh : MethodName := ⟨RX2, "weigh", "(LBenchSeats$Inn;I)V"⟩
abbrev cX2_gatherGains : ByteArray := prog_4_method_6_code
def yX2_gatherGains : MethodName := ⟨RX2, "gatherGains", "(LBenchSeats$Inn;I)V"⟩
abbrev cX2_noteGain : ByteArray := prog_4_method_7_code
def yX2_noteGain : MethodName := ⟨RX2, "noteGain", "(II)V"⟩
abbrev cX2_spreadGain : ByteArray := prog_4_method_8_code
def yX2_spreadGain : MethodName := ⟨RX2, "spreadGain", "(LBenchSeats$Inn;II)V"⟩
def RX3 : String := "BenchSeats$Sheet"
def TX3 : u_T := fun k => match k with
  | 0 => ("BenchSeats$Sheet", "sort", "I", false)
  | 1 => ("BenchSeats$Sheet", "size", "I", false)
  | _ => ("BenchSeats$Sheet", "marks", "[I", true)
def tyX3 : Nat → FieldType := fun k => match k with
  | 0 => .int
  | 1 => .int
  | _ => .array .int
theorem nmX3 : ∀ a, a < 3 → ∀ b, b < 3 → a ≠ b → (TX3 a).2.1 ≠ (TX3 b).2.1 := by decide +kernel
theorem tyX3_ok : ∀ k, k < 3 → parseFieldDescriptor (TX3 k).2.2.1 = some (tyX3 k) := by decide +kernel
abbrev cX3_init : ByteArray := prog_5_method_1_code
def yX3_init : MethodName := ⟨RX3, "<init>", "()V"⟩
abbrev cX3_clear : ByteArray := prog_5_method_2_code
def yX3_clear : MethodName := ⟨RX3, "clear", "(II)V"⟩
abbrev cX3_become : ByteArray := prog_5_method_3_code
def yX3_become : MethodName := ⟨RX3, "become", "(LBenchSeats$Sheet;)V"⟩
abbrev cX3_hasPlace : ByteArray := prog_5_method_4_code
def yX3_hasPlace : MethodName := ⟨RX3, "hasPlace", "(I)Z"⟩
abbrev cX3_hasPlaces : ByteArray := prog_5_method_5_code
def yX3_hasPlaces : MethodName := ⟨RX3, "hasPlaces", "(II)Z"⟩
def RX4 : String := "BenchSeats$Sitter"
def TX4 : u_T := fun k => match k with
  | 0 => ("BenchSeats$Sitter", "kind", "I", false)
  | 1 => ("BenchSeats$Sitter", "place", "I", false)
  | 2 => ("BenchSeats$Sitter", "pennies", "I", false)
  | _ => ("BenchSeats$Sitter", "satDown", "I", false)
def tyX4 : Nat → FieldType := fun k => match k with
  | 0 => .int
  | 1 => .int
  | 2 => .int
  | _ => .int
theorem nmX4 : ∀ a, a < 4 → ∀ b, b < 4 → a ≠ b → (TX4 a).2.1 ≠ (TX4 b).2.1 := by decide +kernel
theorem tyX4_ok : ∀ k, k < 4 → parseFieldDescriptor (TX4 k).2.2.1 = some (tyX4 k) := by decide +kernel
abbrev cX4_init : ByteArray := prog_6_method_1_code
def yX4_init : MethodName := ⟨RX4, "<init>", "()V"⟩
abbrev cX4_begin : ByteArray := prog_6_method_2_code
def yX4_begin : MethodName := ⟨RX4, "begin", "(I)V"⟩
abbrev cX4_become : ByteArray := prog_6_method_3_code
def yX4_become : MethodName := ⟨RX4, "become", "(LBenchSeats$Sitter;)V"⟩
abbrev cX4_sitsNow : ByteArray := prog_6_method_4_code
def yX4_sitsNow : MethodName := ⟨RX4, "sitsNow", "()Z"⟩
abbrev cX4_isOf : ByteArray := prog_6_method_5_code
def yX4_isOf : MethodName := ⟨RX4, "isOf", "(I)Z"⟩
abbrev cX4_worth : ByteArray := prog_6_method_6_code
def yX4_worth : MethodName := ⟨RX4, "worth", "()I"⟩
abbrev cX4_share : ByteArray := prog_6_method_7_code
def yX4_share : MethodName := ⟨RX4, "share", "(I)I"⟩
def RX5 : String := "BenchSeats$Slot"
def TX5 : u_T := fun k => match k with
  | 0 => ("BenchSeats$Slot", "thing", "I", false)
  | 1 => ("BenchSeats$Slot", "sitter", "LBenchSeats$Sitter;", true)
  | 2 => ("BenchSeats$Slot", "sheet", "LBenchSeats$Sheet;", true)
  | _ => ("BenchSeats$Slot", "number", "I", false)
def tyX5 : Nat → FieldType := fun k => match k with
  | 0 => .int
  | 1 => .object "BenchSeats$Sitter"
  | 2 => .object "BenchSeats$Sheet"
  | _ => .int
theorem nmX5 : ∀ a, a < 4 → ∀ b, b < 4 → a ≠ b → (TX5 a).2.1 ≠ (TX5 b).2.1 := by decide +kernel
theorem tyX5_ok : ∀ k, k < 4 → parseFieldDescriptor (TX5 k).2.2.1 = some (tyX5 k) := by decide +kernel
abbrev cX5_init : ByteArray := prog_7_method_1_code
def yX5_init : MethodName := ⟨RX5, "<init>", "()V"⟩
def RX6 : String := "BenchSeats$Tape"
def TX6 : u_T := fun k => match k with
  | 0 => ("BenchSeats$Tape", "bytes", "[I", true)
  | 1 => ("BenchSeats$Tape", "length", "I", false)
  | 2 => ("BenchSeats$Tape", "sort", "I", false)
  | 3 => ("BenchSeats$Tape", "start", "I", false)
  | 4 => ("BenchSeats$Tape", "end", "I", false)
  | 5 => ("BenchSeats$Tape", "key", "I", false)
  | 6 => ("BenchSeats$Tape", "wantsPiece", "Z", false)
  | 7 => ("BenchSeats$Tape", "code", "[I", true)
  | 8 => ("BenchSeats$Tape", "written", "I", false)
  | 9 => ("BenchSeats$Tape", "things", "I", false)
  | 10 => ("BenchSeats$Tape", "signs", "[I", true)
  | 11 => ("BenchSeats$Tape", "pending", "I", false)
  | 12 => ("BenchSeats$Tape", "open", "I", false)
  | _ => ("BenchSeats$Tape", "nots", "I", false)
def tyX6 : Nat → FieldType := fun k => match k with
  | 0 => .array .int
  | 1 => .int
  | 2 => .int
  | 3 => .int
  | 4 => .int
  | 5 => .int
  | 6 => .boolean
  | 7 => .array .int
  | 8 => .int
  | 9 => .int
  | 10 => .array .int
  | 11 => .int
  | 12 => .int
  | _ => .int
theorem nmX6 : ∀ a, a < 14 → ∀ b, b < 14 → a ≠ b → (TX6 a).2.1 ≠ (TX6 b).2.1 := by decide +kernel
theorem tyX6_ok : ∀ k, k < 14 → parseFieldDescriptor (TX6 k).2.2.1 = some (tyX6 k) := by decide +kernel
abbrev cX6_init : ByteArray := prog_8_method_1_code
def yX6_init : MethodName := ⟨RX6, "<init>", "()V"⟩
abbrev cX6_append : ByteArray := prog_8_method_2_code
def yX6_append : MethodName := ⟨RX6, "append", "(I)V"⟩
abbrev cX6_lawRead : ByteArray := prog_8_method_3_code
def yX6_lawRead : MethodName := ⟨RX6, "lawRead", "()LBenchSeats$Text;"⟩
abbrev cX6_parse : ByteArray := prog_8_method_4_code
def yX6_parse : MethodName := ⟨RX6, "parse", "()I"⟩
abbrev cX6_begin : ByteArray := prog_8_method_5_code
def yX6_begin : MethodName := ⟨RX6, "begin", "()V"⟩
abbrev cX6_advance : ByteArray := prog_8_method_6_code
def yX6_advance : MethodName := ⟨RX6, "advance", "()V"⟩
abbrev cX6_sortOf : ByteArray := prog_8_method_7_code
def yX6_sortOf : MethodName := ⟨RX6, "sortOf", "(I)I"⟩
abbrev cX6_keyHere : ByteArray := prog_8_method_8_code
def yX6_keyHere : MethodName := ⟨RX6, "keyHere", "()I"⟩
abbrev cX6_isHere : ByteArray := prog_8_method_9_code
def yX6_isHere : MethodName := ⟨RX6, "isHere", "(Ljava/lang/String;)Z"⟩
abbrev cX6_takesPiece : ByteArray := prog_8_method_10_code
def yX6_takesPiece : MethodName := ⟨RX6, "takesPiece", "()Z"⟩
abbrev cX6_takesNumber : ByteArray := prog_8_method_11_code
def yX6_takesNumber : MethodName := ⟨RX6, "takesNumber", "()Z"⟩
abbrev cX6_takesName : ByteArray := prog_8_method_12_code
def yX6_takesName : MethodName := ⟨RX6, "takesName", "()Z"⟩
abbrev cX6_takesOpening : ByteArray := prog_8_method_13_code
def yX6_takesOpening : MethodName := ⟨RX6, "takesOpening", "(I)Z"⟩
abbrev cX6_takesSign : ByteArray := prog_8_method_14_code
def yX6_takesSign : MethodName := ⟨RX6, "takesSign", "()Z"⟩
abbrev cX6_takesClosing : ByteArray := prog_8_method_15_code
def yX6_takesClosing : MethodName := ⟨RX6, "takesClosing", "()Z"⟩
abbrev cX6_writeThing : ByteArray := prog_8_method_16_code
def yX6_writeThing : MethodName := ⟨RX6, "writeThing", "(I)V"⟩
abbrev cX6_pieceStands : ByteArray := prog_8_method_17_code
def yX6_pieceStands : MethodName := ⟨RX6, "pieceStands", "()V"⟩
abbrev cX6_settle : ByteArray := prog_8_method_18_code
def yX6_settle : MethodName := ⟨RX6, "settle", "(I)V"⟩
abbrev cX6_write : ByteArray := prog_8_method_19_code
def yX6_write : MethodName := ⟨RX6, "write", "(I)V"⟩
abbrev cX6_hold : ByteArray := prog_8_method_20_code
def yX6_hold : MethodName := ⟨RX6, "hold", "(I)V"⟩
abbrev cX6_tightnessOf : ByteArray := prog_8_method_21_code
def yX6_tightnessOf : MethodName := ⟨RX6, "tightnessOf", "(I)I"⟩
def RX7 : String := "BenchSeats$Text"
def TX7 : u_T := fun k => match k with
  | 0 => ("BenchSeats$Text", "key", "I", true)
  | 1 => ("BenchSeats$Text", "things", "I", true)
  | 2 => ("BenchSeats$Text", "code", "[I", true)
  | _ => ("BenchSeats$Text", "stack", "[I", true)
def tyX7 : Nat → FieldType := fun k => match k with
  | 0 => .int
  | 1 => .int
  | 2 => .array .int
  | _ => .array .int
theorem nmX7 : ∀ a, a < 4 → ∀ b, b < 4 → a ≠ b → (TX7 a).2.1 ≠ (TX7 b).2.1 := by decide +kernel
theorem tyX7_ok : ∀ k, k < 4 → parseFieldDescriptor (TX7 k).2.2.1 = some (tyX7 k) := by decide +kernel
abbrev cX7_init : ByteArray := prog_9_method_1_code
def yX7_init : MethodName := ⟨RX7, "<init>", "(II[I)V"⟩
abbrev cX7_value : ByteArray := prog_9_method_2_code
def yX7_value : MethodName := ⟨RX7, "value", "(III)I"⟩
abbrev cX7_join : ByteArray := prog_9_method_3_code
def yX7_join : MethodName := ⟨RX7, "join", "(III)I"⟩
def RX8 : String := "BenchSeats"
def TX8 : u_T := fun k => match k with
  | 0 => ("BenchSeats", "now", "LBenchSeats$Inn;", true)
  | 1 => ("BenchSeats", "image", "LBenchSeats$Inn;", true)
  | 2 => ("BenchSeats", "trial", "LBenchSeats$Inn;", true)
  | 3 => ("BenchSeats", "isKept", "Z", false)
  | 4 => ("BenchSeats", "outlook", "LBenchSeats$Outlook;", true)
  | 5 => ("BenchSeats", "tape", "LBenchSeats$Tape;", true)
  | 6 => ("BenchSeats", "sheets", "[LBenchSeats$Sheet;", true)
  | 7 => ("BenchSeats", "slots", "[LBenchSeats$Slot;", true)
  | 8 => ("BenchSeats", "waiting", "[I", true)
  | _ => ("BenchSeats", "waits", "I", false)
def tyX8 : Nat → FieldType := fun k => match k with
  | 0 => .object "BenchSeats$Inn"
  | 1 => .object "BenchSeats$Inn"
  | 2 => .object "BenchSeats$Inn"
  | 3 => .boolean
  | 4 => .object "BenchSeats$Outlook"
  | 5 => .object "BenchSeats$Tape"
  | 6 => .array (.object "BenchSeats$Sheet")
  | 7 => .array (.object "BenchSeats$Slot")
  | 8 => .array .int
  | _ => .int
theorem nmX8 : ∀ a, a < 10 → ∀ b, b < 10 → a ≠ b → (TX8 a).2.1 ≠ (TX8 b).2.1 := by decide +kernel
theorem tyX8_ok : ∀ k, k < 10 → parseFieldDescriptor (TX8 k).2.2.1 = some (tyX8 k) := by decide +kernel
abbrev cX8_init : ByteArray := prog_1_method_1_code
def yX8_init : MethodName := ⟨RX8, "<init>", "()V"⟩
abbrev cX8_bench : ByteArray := prog_1_method_2_code
def yX8_bench : MethodName := ⟨RX8, "bench", "(III)I"⟩
abbrev cX8_sitter : ByteArray := prog_1_method_3_code
def yX8_sitter : MethodName := ⟨RX8, "sitter", "(I)I"⟩
abbrev cX8_told : ByteArray := prog_1_method_4_code
def yX8_told : MethodName := ⟨RX8, "told", "(II)I"⟩
abbrev cX8_as : ByteArray := prog_1_method_5_code
def yX8_as : MethodName := ⟨RX8, "as", "(II)I"⟩
abbrev cX8_turns : ByteArray := prog_1_method_6_code
def yX8_turns : MethodName := ⟨RX8, "turns", "(II)I"⟩
abbrev cX8_sits : ByteArray := prog_1_method_7_code
def yX8_sits : MethodName := ⟨RX8, "sits", "(II)I"⟩
abbrev cX8_rises : ByteArray := prog_1_method_8_code
def yX8_rises : MethodName := ⟨RX8, "rises", "(I)I"⟩
abbrev cX8_who : ByteArray := prog_1_method_9_code
def yX8_who : MethodName := ⟨RX8, "who", "(I)I"⟩
abbrev cX8_cushion : ByteArray := prog_1_method_10_code
def yX8_cushion : MethodName := ⟨RX8, "cushion", "(II)I"⟩
abbrev cX8_rule : ByteArray := prog_1_method_11_code
def yX8_rule : MethodName := ⟨RX8, "rule", "(II)I"⟩
abbrev cX8_deal : ByteArray := prog_1_method_12_code
def yX8_deal : MethodName := ⟨RX8, "deal", "(I)I"⟩
abbrev cX8_seed : ByteArray := prog_1_method_13_code
def yX8_seed : MethodName := ⟨RX8, "seed", "(I)I"⟩
abbrev cX8_minutes : ByteArray := prog_1_method_14_code
def yX8_minutes : MethodName := ⟨RX8, "minutes", "(I)I"⟩
abbrev cX8_inn : ByteArray := prog_1_method_15_code
def yX8_inn : MethodName := ⟨RX8, "inn", "(I)I"⟩
abbrev cX8_goes : ByteArray := prog_1_method_16_code
def yX8_goes : MethodName := ⟨RX8, "goes", "(I)I"⟩
abbrev cX8_game : ByteArray := prog_1_method_17_code
def yX8_game : MethodName := ⟨RX8, "game", "(I)I"⟩
abbrev cX8_worthy : ByteArray := prog_1_method_18_code
def yX8_worthy : MethodName := ⟨RX8, "worthy", "(I)I"⟩
abbrev cX8_behind : ByteArray := prog_1_method_19_code
def yX8_behind : MethodName := ⟨RX8, "behind", "(II)I"⟩
abbrev cX8_fullUp : ByteArray := prog_1_method_20_code
def yX8_fullUp : MethodName := ⟨RX8, "fullUp", "()I"⟩
abbrev cX8_rose : ByteArray := prog_1_method_21_code
def yX8_rose : MethodName := ⟨RX8, "rose", "(II)I"⟩
abbrev cX8_book : ByteArray := prog_1_method_22_code
def yX8_book : MethodName := ⟨RX8, "book", "(I)I"⟩
abbrev cX8_fee : ByteArray := prog_1_method_23_code
def yX8_fee : MethodName := ⟨RX8, "fee", "()I"⟩
abbrev cX8_fine : ByteArray := prog_1_method_24_code
def yX8_fine : MethodName := ⟨RX8, "fine", "(I)I"⟩
abbrev cX8_feed : ByteArray := prog_1_method_25_code
def yX8_feed : MethodName := ⟨RX8, "feed", "(III)I"⟩
abbrev cX8_trim : ByteArray := prog_1_method_26_code
def yX8_trim : MethodName := ⟨RX8, "trim", "(I)I"⟩
abbrev cX8_text : ByteArray := prog_1_method_27_code
def yX8_text : MethodName := ⟨RX8, "text", "()I"⟩
abbrev cX8_textTold : ByteArray := prog_1_method_28_code
def yX8_textTold : MethodName := ⟨RX8, "textTold", "(II)I"⟩
abbrev cX8_why : ByteArray := prog_1_method_29_code
def yX8_why : MethodName := ⟨RX8, "why", "(I)I"⟩
abbrev cX8_sheet : ByteArray := prog_1_method_30_code
def yX8_sheet : MethodName := ⟨RX8, "sheet", "(III)I"⟩
abbrev cX8_mark : ByteArray := prog_1_method_31_code
def yX8_mark : MethodName := ⟨RX8, "mark", "(III)I"⟩
abbrev cX8_pour : ByteArray := prog_1_method_32_code
def yX8_pour : MethodName := ⟨RX8, "pour", "(I)I"⟩
abbrev cX8_reads : ByteArray := prog_1_method_33_code
def yX8_reads : MethodName := ⟨RX8, "reads", "(I)I"⟩
abbrev cX8_copy : ByteArray := prog_1_method_34_code
def yX8_copy : MethodName := ⟨RX8, "copy", "(IIIII)I"⟩
abbrev cX8_lay : ByteArray := prog_1_method_35_code
def yX8_lay : MethodName := ⟨RX8, "lay", "(III)I"⟩
abbrev cX8_ask : ByteArray := prog_1_method_36_code
def yX8_ask : MethodName := ⟨RX8, "ask", "(II)I"⟩
abbrev cX8_item : ByteArray := prog_1_method_37_code
def yX8_item : MethodName := ⟨RX8, "item", "(II)I"⟩
abbrev cX8_rest : ByteArray := prog_1_method_38_code
def yX8_rest : MethodName := ⟨RX8, "rest", "(II)I"⟩
abbrev cX8_tell : ByteArray := prog_1_method_39_code
def yX8_tell : MethodName := ⟨RX8, "tell", "(I)I"⟩
abbrev cX8_check : ByteArray := prog_1_method_40_code
def yX8_check : MethodName := ⟨RX8, "check", "(I)I"⟩
abbrev cX8_keep : ByteArray := prog_1_method_41_code
def yX8_keep : MethodName := ⟨RX8, "keep", "()I"⟩
abbrev cX8_back : ByteArray := prog_1_method_42_code
def yX8_back : MethodName := ⟨RX8, "back", "()I"⟩
abbrev cX8_count : ByteArray := prog_1_method_43_code
def yX8_count : MethodName := ⟨RX8, "count", "(I)I"⟩
abbrev cX8_compare : ByteArray := prog_1_method_44_code
def yX8_compare : MethodName := ⟨RX8, "compare", "(II)I"⟩
abbrev cX8_refusalOf : ByteArray := prog_1_method_45_code
def yX8_refusalOf : MethodName := ⟨RX8, "refusalOf", "(I)I"⟩
abbrev cX8_isSitter : ByteArray := prog_1_method_46_code
def yX8_isSitter : MethodName := ⟨RX8, "isSitter", "(I)Z"⟩
abbrev cX8_isPlace : ByteArray := prog_1_method_47_code
def yX8_isPlace : MethodName := ⟨RX8, "isPlace", "(I)Z"⟩
abbrev cX8_isKind : ByteArray := prog_1_method_48_code
def yX8_isKind : MethodName := ⟨RX8, "isKind", "(I)Z"⟩
abbrev cX8_isSheet : ByteArray := prog_1_method_49_code
def yX8_isSheet : MethodName := ⟨RX8, "isSheet", "(I)Z"⟩
abbrev cX8_isSlot : ByteArray := prog_1_method_50_code
def yX8_isSlot : MethodName := ⟨RX8, "isSlot", "(I)Z"⟩
abbrev cX8_isWithin : ByteArray := prog_1_method_51_code
def yX8_isWithin : MethodName := ⟨RX8, "isWithin", "(III)Z"⟩
abbrev cX8_held : ByteArray := prog_1_method_52_code
def yX8_held : MethodName := ⟨RX8, "held", "(III)I"⟩
abbrev cX8_has : ByteArray := prog_1_method_53_code
def yX8_has : MethodName := ⟨RX8, "has", "(II)Z"⟩
def RX9 : String := "BenchSeatsModel"
def TX9 : u_T := fun k => match k with
  | 0 => ("BenchSeatsModel", "now", "[I", true)
  | 1 => ("BenchSeatsModel", "image", "[I", true)
  | 2 => ("BenchSeatsModel", "aside", "[I", true)
  | 3 => ("BenchSeatsModel", "hasImage", "Z", false)
  | 4 => ("BenchSeatsModel", "sittings", "I", false)
  | 5 => ("BenchSeatsModel", "on", "[I", true)
  | 6 => ("BenchSeatsModel", "before", "[I", true)
  | 7 => ("BenchSeatsModel", "tape", "[I", true)
  | 8 => ("BenchSeatsModel", "taped", "I", false)
  | 9 => ("BenchSeatsModel", "next", "I", false)
  | 10 => ("BenchSeatsModel", "from", "I", false)
  | 11 => ("BenchSeatsModel", "token", "I", false)
  | 12 => ("BenchSeatsModel", "value", "I", false)
  | 13 => ("BenchSeatsModel", "ended", "I", false)
  | 14 => ("BenchSeatsModel", "key", "I", false)
  | 15 => ("BenchSeatsModel", "keys", "[C", true)
  | 16 => ("BenchSeatsModel", "keyAt", "[I", true)
  | 17 => ("BenchSeatsModel", "code", "[I", true)
  | 18 => ("BenchSeatsModel", "codes", "I", false)
  | 19 => ("BenchSeatsModel", "atoms", "I", false)
  | 20 => ("BenchSeatsModel", "waits", "[I", true)
  | 21 => ("BenchSeatsModel", "held", "I", false)
  | 22 => ("BenchSeatsModel", "tested", "[Z", true)
  | 23 => ("BenchSeatsModel", "stack", "[I", true)
  | 24 => ("BenchSeatsModel", "facts", "[I", true)
  | 25 => ("BenchSeatsModel", "sorts", "[I", true)
  | 26 => ("BenchSeatsModel", "sizes", "[I", true)
  | 27 => ("BenchSeatsModel", "cells", "[I", true)
  | 28 => ("BenchSeatsModel", "holds", "[I", true)
  | 29 => ("BenchSeatsModel", "holdsA", "[I", true)
  | 30 => ("BenchSeatsModel", "holdsB", "[I", true)
  | 31 => ("BenchSeatsModel", "heldCells", "[I", true)
  | 32 => ("BenchSeatsModel", "moved", "[I", true)
  | 33 => ("BenchSeatsModel", "tells", "[I", true)
  | _ => ("BenchSeatsModel", "waiting", "I", false)
def tyX9 : Nat → FieldType := fun k => match k with
  | 0 => .array .int
  | 1 => .array .int
  | 2 => .array .int
  | 3 => .boolean
  | 4 => .int
  | 5 => .array .int
  | 6 => .array .int
  | 7 => .array .int
  | 8 => .int
  | 9 => .int
  | 10 => .int
  | 11 => .int
  | 12 => .int
  | 13 => .int
  | 14 => .int
  | 15 => .array .char
  | 16 => .array .int
  | 17 => .array .int
  | 18 => .int
  | 19 => .int
  | 20 => .array .int
  | 21 => .int
  | 22 => .array .boolean
  | 23 => .array .int
  | 24 => .array .int
  | 25 => .array .int
  | 26 => .array .int
  | 27 => .array .int
  | 28 => .array .int
  | 29 => .array .int
  | 30 => .array .int
  | 31 => .array .int
  | 32 => .array .int
  | 33 => .array .int
  | _ => .int
theorem nmX9 : ∀ a, a < 35 → ∀ b, b < 35 → a ≠ b → (TX9 a).2.1 ≠ (TX9 b).2.1 := by decide +kernel
theorem tyX9_ok : ∀ k, k < 35 → parseFieldDescriptor (TX9 k).2.2.1 = some (tyX9 k) := by decide +kernel
abbrev cX9_init : ByteArray := prog_11_method_1_code
def yX9_init : MethodName := ⟨RX9, "<init>", "()V"⟩
abbrev cX9_in : ByteArray := prog_11_method_2_code
def yX9_in : MethodName := ⟨RX9, "in", "(III)Z"⟩
abbrev cX9_within : ByteArray := prog_11_method_3_code
def yX9_within : MethodName := ⟨RX9, "within", "(III)I"⟩
abbrev cX9_copyAll : ByteArray := prog_11_method_4_code
def yX9_copyAll : MethodName := ⟨RX9, "copyAll", "([I[I)V"⟩
abbrev cX9_told0 : ByteArray := prog_11_method_5_code
def yX9_told0 : MethodName := ⟨RX9, "told0", "(I)I"⟩
abbrev cX9_isSitter : ByteArray := prog_11_method_6_code
def yX9_isSitter : MethodName := ⟨RX9, "isSitter", "(I)Z"⟩
abbrev cX9_isPlace : ByteArray := prog_11_method_7_code
def yX9_isPlace : MethodName := ⟨RX9, "isPlace", "(I)Z"⟩
abbrev cX9_of : ByteArray := prog_11_method_8_code
def yX9_of : MethodName := ⟨RX9, "of", "(II)I"⟩
abbrev cX9_put : ByteArray := prog_11_method_9_code
def yX9_put : MethodName := ⟨RX9, "put", "(III)V"⟩
abbrev cX9_becomes : ByteArray := prog_11_method_10_code
def yX9_becomes : MethodName := ⟨RX9, "becomes", "(II)I"⟩
abbrev cX9_isBroad : ByteArray := prog_11_method_11_code
def yX9_isBroad : MethodName := ⟨RX9, "isBroad", "(I)Z"⟩
abbrev cX9_isFriend : ByteArray := prog_11_method_12_code
def yX9_isFriend : MethodName := ⟨RX9, "isFriend", "(I)Z"⟩
abbrev cX9_setAt : ByteArray := prog_11_method_13_code
def yX9_setAt : MethodName := ⟨RX9, "setAt", "(II)I"⟩
abbrev cX9_setOf : ByteArray := prog_11_method_14_code
def yX9_setOf : MethodName := ⟨RX9, "setOf", "(I)I"⟩
abbrev cX9_taken : ByteArray := prog_11_method_15_code
def yX9_taken : MethodName := ⟨RX9, "taken", "()I"⟩
abbrev cX9_isSome : ByteArray := prog_11_method_16_code
def yX9_isSome : MethodName := ⟨RX9, "isSome", "(II)Z"⟩
abbrev cX9_isByFriend : ByteArray := prog_11_method_17_code
def yX9_isByFriend : MethodName := ⟨RX9, "isByFriend", "(I)Z"⟩
abbrev cX9_may : ByteArray := prog_11_method_18_code
def yX9_may : MethodName := ⟨RX9, "may", "(III)Z"⟩
abbrev cX9_placesOf : ByteArray := prog_11_method_19_code
def yX9_placesOf : MethodName := ⟨RX9, "placesOf", "(I)I"⟩
abbrev cX9_bench : ByteArray := prog_11_method_20_code
def yX9_bench : MethodName := ⟨RX9, "bench", "(III)I"⟩
abbrev cX9_comes : ByteArray := prog_11_method_21_code
def yX9_comes : MethodName := ⟨RX9, "comes", "(I)I"⟩
abbrev cX9_sitter : ByteArray := prog_11_method_22_code
def yX9_sitter : MethodName := ⟨RX9, "sitter", "(I)I"⟩
abbrev cX9_worthOf : ByteArray := prog_11_method_23_code
def yX9_worthOf : MethodName := ⟨RX9, "worthOf", "(I)I"⟩
abbrev cX9_told : ByteArray := prog_11_method_24_code
def yX9_told : MethodName := ⟨RX9, "told", "(II)I"⟩
abbrev cX9_isUnder : ByteArray := prog_11_method_25_code
def yX9_isUnder : MethodName := ⟨RX9, "isUnder", "(II)Z"⟩
abbrev cX9_as : ByteArray := prog_11_method_26_code
def yX9_as : MethodName := ⟨RX9, "as", "(II)I"⟩
abbrev cX9_turns : ByteArray := prog_11_method_27_code
def yX9_turns : MethodName := ⟨RX9, "turns", "(II)I"⟩
abbrev cX9_paysAt : ByteArray := prog_11_method_28_code
def yX9_paysAt : MethodName := ⟨RX9, "paysAt", "(II)I"⟩
abbrev cX9_sitsDown : ByteArray := prog_11_method_29_code
def yX9_sitsDown : MethodName := ⟨RX9, "sitsDown", "(II)I"⟩
abbrev cX9_sits : ByteArray := prog_11_method_30_code
def yX9_sits : MethodName := ⟨RX9, "sits", "(II)I"⟩
abbrev cX9_rises : ByteArray := prog_11_method_31_code
def yX9_rises : MethodName := ⟨RX9, "rises", "(I)I"⟩
abbrev cX9_who : ByteArray := prog_11_method_32_code
def yX9_who : MethodName := ⟨RX9, "who", "(I)I"⟩
abbrev cX9_cushion : ByteArray := prog_11_method_33_code
def yX9_cushion : MethodName := ⟨RX9, "cushion", "(II)I"⟩
abbrev cX9_rule : ByteArray := prog_11_method_34_code
def yX9_rule : MethodName := ⟨RX9, "rule", "(II)I"⟩
abbrev cX9_draw : ByteArray := prog_11_method_35_code
def yX9_draw : MethodName := ⟨RX9, "draw", "()I"⟩
abbrev cX9_deal : ByteArray := prog_11_method_36_code
def yX9_deal : MethodName := ⟨RX9, "deal", "(I)I"⟩
abbrev cX9_seed : ByteArray := prog_11_method_37_code
def yX9_seed : MethodName := ⟨RX9, "seed", "(I)I"⟩
abbrev cX9_bits : ByteArray := prog_11_method_38_code
def yX9_bits : MethodName := ⟨RX9, "bits", "(I)I"⟩
abbrev cX9_manySit : ByteArray := prog_11_method_39_code
def yX9_manySit : MethodName := ⟨RX9, "manySit", "()I"⟩
abbrev cX9_placeIn : ByteArray := prog_11_method_40_code
def yX9_placeIn : MethodName := ⟨RX9, "placeIn", "(II)I"⟩
abbrev cX9_softest : ByteArray := prog_11_method_41_code
def yX9_softest : MethodName := ⟨RX9, "softest", "(I)I"⟩
abbrev cX9_comesIn : ByteArray := prog_11_method_42_code
def yX9_comesIn : MethodName := ⟨RX9, "comesIn", "()V"⟩
abbrev cX9_minute : ByteArray := prog_11_method_43_code
def yX9_minute : MethodName := ⟨RX9, "minute", "()V"⟩
abbrev cX9_goesOn : ByteArray := prog_11_method_44_code
def yX9_goesOn : MethodName := ⟨RX9, "goesOn", "(I)V"⟩
abbrev cX9_minutes : ByteArray := prog_11_method_45_code
def yX9_minutes : MethodName := ⟨RX9, "minutes", "(I)I"⟩
abbrev cX9_inn : ByteArray := prog_11_method_46_code
def yX9_inn : MethodName := ⟨RX9, "inn", "(I)I"⟩
abbrev cX9_mayOrdinary : ByteArray := prog_11_method_47_code
def yX9_mayOrdinary : MethodName := ⟨RX9, "mayOrdinary", "(II)Z"⟩
abbrev cX9_worksSet : ByteArray := prog_11_method_48_code
def yX9_worksSet : MethodName := ⟨RX9, "worksSet", "(II)I"⟩
abbrev cX9_works : ByteArray := prog_11_method_49_code
def yX9_works : MethodName := ⟨RX9, "works", "(I)I"⟩
abbrev cX9_goes : ByteArray := prog_11_method_50_code
def yX9_goes : MethodName := ⟨RX9, "goes", "(I)I"⟩
abbrev cX9_game : ByteArray := prog_11_method_51_code
def yX9_game : MethodName := ⟨RX9, "game", "(I)I"⟩
abbrev cX9_worthy : ByteArray := prog_11_method_52_code
def yX9_worthy : MethodName := ⟨RX9, "worthy", "(I)I"⟩
abbrev cX9_thinks : ByteArray := prog_11_method_53_code
def yX9_thinks : MethodName := ⟨RX9, "thinks", "()V"⟩
abbrev cX9_putsBack : ByteArray := prog_11_method_54_code
def yX9_putsBack : MethodName := ⟨RX9, "putsBack", "()V"⟩
abbrev cX9_behind : ByteArray := prog_11_method_55_code
def yX9_behind : MethodName := ⟨RX9, "behind", "(II)I"⟩
abbrev cX9_isFullUp : ByteArray := prog_11_method_56_code
def yX9_isFullUp : MethodName := ⟨RX9, "isFullUp", "()Z"⟩
abbrev cX9_fullUp : ByteArray := prog_11_method_57_code
def yX9_fullUp : MethodName := ⟨RX9, "fullUp", "()I"⟩
abbrev cX9_rose : ByteArray := prog_11_method_58_code
def yX9_rose : MethodName := ⟨RX9, "rose", "(II)I"⟩
abbrev cX9_book : ByteArray := prog_11_method_59_code
def yX9_book : MethodName := ⟨RX9, "book", "(I)I"⟩
abbrev cX9_fee : ByteArray := prog_11_method_60_code
def yX9_fee : MethodName := ⟨RX9, "fee", "()I"⟩
abbrev cX9_fine : ByteArray := prog_11_method_61_code
def yX9_fine : MethodName := ⟨RX9, "fine", "(I)I"⟩
abbrev cX9_feed : ByteArray := prog_11_method_62_code
def yX9_feed : MethodName := ⟨RX9, "feed", "(III)I"⟩
abbrev cX9_trim : ByteArray := prog_11_method_63_code
def yX9_trim : MethodName := ⟨RX9, "trim", "(I)I"⟩
abbrev cX9_isLetter : ByteArray := prog_11_method_64_code
def yX9_isLetter : MethodName := ⟨RX9, "isLetter", "(I)Z"⟩
abbrev cX9_isFigure : ByteArray := prog_11_method_65_code
def yX9_isFigure : MethodName := ⟨RX9, "isFigure", "(I)Z"⟩
abbrev cX9_go : ByteArray := prog_11_method_66_code
def yX9_go : MethodName := ⟨RX9, "go", "()V"⟩
abbrev cX9_takesKey : ByteArray := prog_11_method_67_code
def yX9_takesKey : MethodName := ⟨RX9, "takesKey", "()Z"⟩
abbrev cX9_nameOf : ByteArray := prog_11_method_68_code
def yX9_nameOf : MethodName := ⟨RX9, "nameOf", "(I)I"⟩
abbrev cX9_rank : ByteArray := prog_11_method_69_code
def yX9_rank : MethodName := ⟨RX9, "rank", "(I)I"⟩
abbrev cX9_settle : ByteArray := prog_11_method_70_code
def yX9_settle : MethodName := ⟨RX9, "settle", "(I)V"⟩
abbrev cX9_signHere : ByteArray := prog_11_method_71_code
def yX9_signHere : MethodName := ⟨RX9, "signHere", "()I"⟩
abbrev cX9_takesPart : ByteArray := prog_11_method_72_code
def yX9_takesPart : MethodName := ⟨RX9, "takesPart", "()Z"⟩
abbrev cX9_takesE : ByteArray := prog_11_method_73_code
def yX9_takesE : MethodName := ⟨RX9, "takesE", "()Z"⟩
abbrev cX9_notsOpen : ByteArray := prog_11_method_74_code
def yX9_notsOpen : MethodName := ⟨RX9, "notsOpen", "()I"⟩
abbrev cX9_text : ByteArray := prog_11_method_75_code
def yX9_text : MethodName := ⟨RX9, "text", "()I"⟩
abbrev cX9_textTold : ByteArray := prog_11_method_76_code
def yX9_textTold : MethodName := ⟨RX9, "textTold", "(II)I"⟩
abbrev cX9_counts : ByteArray := prog_11_method_77_code
def yX9_counts : MethodName := ⟨RX9, "counts", "(I)I"⟩
abbrev cX9_why : ByteArray := prog_11_method_78_code
def yX9_why : MethodName := ⟨RX9, "why", "(I)I"⟩
abbrev cX9_two : ByteArray := prog_11_method_79_code
def yX9_two : MethodName := ⟨RX9, "two", "(III)I"⟩
abbrev cX9_worksOut : ByteArray := prog_11_method_80_code
def yX9_worksOut : MethodName := ⟨RX9, "worksOut", "(I)I"⟩
abbrev cX9_isSheet : ByteArray := prog_11_method_81_code
def yX9_isSheet : MethodName := ⟨RX9, "isSheet", "(I)Z"⟩
abbrev cX9_isSlot : ByteArray := prog_11_method_82_code
def yX9_isSlot : MethodName := ⟨RX9, "isSlot", "(I)Z"⟩
abbrev cX9_sheet : ByteArray := prog_11_method_83_code
def yX9_sheet : MethodName := ⟨RX9, "sheet", "(III)I"⟩
abbrev cX9_mark : ByteArray := prog_11_method_84_code
def yX9_mark : MethodName := ⟨RX9, "mark", "(III)I"⟩
abbrev cX9_pour : ByteArray := prog_11_method_85_code
def yX9_pour : MethodName := ⟨RX9, "pour", "(I)I"⟩
abbrev cX9_reads : ByteArray := prog_11_method_86_code
def yX9_reads : MethodName := ⟨RX9, "reads", "(I)I"⟩
abbrev cX9_copy : ByteArray := prog_11_method_87_code
def yX9_copy : MethodName := ⟨RX9, "copy", "(IIIII)I"⟩
abbrev cX9_lay : ByteArray := prog_11_method_88_code
def yX9_lay : MethodName := ⟨RX9, "lay", "(III)I"⟩
abbrev cX9_ask : ByteArray := prog_11_method_89_code
def yX9_ask : MethodName := ⟨RX9, "ask", "(II)I"⟩
abbrev cX9_item : ByteArray := prog_11_method_90_code
def yX9_item : MethodName := ⟨RX9, "item", "(II)I"⟩
abbrev cX9_rest : ByteArray := prog_11_method_91_code
def yX9_rest : MethodName := ⟨RX9, "rest", "(II)I"⟩
abbrev cX9_tell : ByteArray := prog_11_method_92_code
def yX9_tell : MethodName := ⟨RX9, "tell", "(I)I"⟩
abbrev cX9_check : ByteArray := prog_11_method_93_code
def yX9_check : MethodName := ⟨RX9, "check", "(I)I"⟩
abbrev cX9_keep : ByteArray := prog_11_method_94_code
def yX9_keep : MethodName := ⟨RX9, "keep", "()I"⟩
abbrev cX9_back : ByteArray := prog_11_method_95_code
def yX9_back : MethodName := ⟨RX9, "back", "()I"⟩
abbrev cX9_count : ByteArray := prog_11_method_96_code
def yX9_count : MethodName := ⟨RX9, "count", "(I)I"⟩
def RJ11 : String := "java/lang/Character"
def TJ11 : u_T := fun k => match k with
  | _ => ("", "", "", false)
def tyJ11 : Nat → FieldType := fun k => match k with
  | _ => .int
theorem nmJ11 : ∀ a, a < 0 → ∀ b, b < 0 → a ≠ b → (TJ11 a).2.1 ≠ (TJ11 b).2.1 := by decide +kernel
theorem tyJ11_ok : ∀ k, k < 0 → parseFieldDescriptor (TJ11 k).2.2.1 = some (tyJ11 k) := by decide +kernel
abbrev cJ11_isValidCodePoint_9a6ad : ByteArray := prog_12_method_11_code
def yJ11_isValidCodePoint_9a6ad : MethodName := ⟨RJ11, "isValidCodePoint", "(I)Z"⟩
abbrev cJ11_highSurrogate_5068e : ByteArray := prog_12_method_28_code
def yJ11_highSurrogate_5068e : MethodName := ⟨RJ11, "highSurrogate", "(I)C"⟩
abbrev cJ11_lowSurrogate_5068e : ByteArray := prog_12_method_29_code
def yJ11_lowSurrogate_5068e : MethodName := ⟨RJ11, "lowSurrogate", "(I)C"⟩
def RJ6 : String := "java/lang/Integer"
def TJ6 : u_T := fun k => match k with
  | _ => ("", "", "", false)
def tyJ6 : Nat → FieldType := fun k => match k with
  | _ => .int
theorem nmJ6 : ∀ a, a < 0 → ∀ b, b < 0 → a ≠ b → (TJ6 a).2.1 ≠ (TJ6 b).2.1 := by decide +kernel
theorem tyJ6_ok : ∀ k, k < 0 → parseFieldDescriptor (TJ6 k).2.2.1 = some (tyJ6 k) := by decide +kernel
abbrev cJ6_numberOfTrailingZeros_0f7a4 : ByteArray := prog_13_method_48_code
def yJ6_numberOfTrailingZeros_0f7a4 : MethodName := ⟨RJ6, "numberOfTrailingZeros", "(I)I"⟩
abbrev cJ6_bitCount_0f7a4 : ByteArray := prog_13_method_49_code
def yJ6_bitCount_0f7a4 : MethodName := ⟨RJ6, "bitCount", "(I)I"⟩
def RJ9 : String := "java/lang/Math"
def TJ9 : u_T := fun k => match k with
  | _ => ("", "", "", false)
def tyJ9 : Nat → FieldType := fun k => match k with
  | _ => .int
theorem nmJ9 : ∀ a, a < 0 → ∀ b, b < 0 → a ≠ b → (TJ9 a).2.1 ≠ (TJ9 b).2.1 := by decide +kernel
theorem tyJ9_ok : ∀ k, k < 0 → parseFieldDescriptor (TJ9 k).2.2.1 = some (tyJ9 k) := by decide +kernel
abbrev cJ9_max_7cf53 : ByteArray := prog_14_method_65_code
def yJ9_max_7cf53 : MethodName := ⟨RJ9, "max", "(II)I"⟩
abbrev cJ9_min_7cf53 : ByteArray := prog_14_method_69_code
def yJ9_min_7cf53 : MethodName := ⟨RJ9, "min", "(II)I"⟩
def RJ0 : String := "java/lang/String"
def TJ0 : u_T := fun k => match k with
  | _ => ("", "", "", false)
def tyJ0 : Nat → FieldType := fun k => match k with
  | _ => .int
theorem nmJ0 : ∀ a, a < 0 → ∀ b, b < 0 → a ≠ b → (TJ0 a).2.1 ≠ (TJ0 b).2.1 := by decide +kernel
theorem tyJ0_ok : ∀ k, k < 0 → parseFieldDescriptor (TJ0 k).2.2.1 = some (tyJ0 k) := by decide +kernel
abbrev cJ0_length_8abf5 : ByteArray := prog_15_method_54_code
def yJ0_length_8abf5 : MethodName := ⟨RJ0, "length", "()I"⟩
abbrev cJ0_charAt_5068e : ByteArray := prog_15_method_56_code
def yJ0_charAt_5068e : MethodName := ⟨RJ0, "charAt", "(I)C"⟩
abbrev cJ0_indexOf_0f7a4 : ByteArray := prog_15_method_79_code
def yJ0_indexOf_0f7a4 : MethodName := ⟨RJ0, "indexOf", "(I)I"⟩
abbrev cJ0_indexOf_7cf53 : ByteArray := prog_15_method_80_code
def yJ0_indexOf_7cf53 : MethodName := ⟨RJ0, "indexOf", "(II)I"⟩
abbrev cJ0_coder_7d493 : ByteArray := prog_15_method_152_code
def yJ0_coder_7d493 : MethodName := ⟨RJ0, "coder", "()B"⟩
abbrev cJ0_isLatin1_aae02 : ByteArray := prog_15_method_154_code
def yJ0_isLatin1_aae02 : MethodName := ⟨RJ0, "isLatin1", "()Z"⟩
abbrev cJ0_checkIndex_df160 : ByteArray := prog_15_method_155_code
def yJ0_checkIndex_df160 : MethodName := ⟨RJ0, "checkIndex", "(II)V"⟩
abbrev cJ0_checkBoundsBeginEnd_23922 : ByteArray := prog_15_method_158_code
def yJ0_checkBoundsBeginEnd_23922 : MethodName := ⟨RJ0, "checkBoundsBeginEnd", "(III)V"⟩
def RJ1 : String := "java/lang/StringLatin1"
def TJ1 : u_T := fun k => match k with
  | _ => ("", "", "", false)
def tyJ1 : Nat → FieldType := fun k => match k with
  | _ => .int
theorem nmJ1 : ∀ a, a < 0 → ∀ b, b < 0 → a ≠ b → (TJ1 a).2.1 ≠ (TJ1 b).2.1 := by decide +kernel
theorem tyJ1_ok : ∀ k, k < 0 → parseFieldDescriptor (TJ1 k).2.2.1 = some (tyJ1 k) := by decide +kernel
abbrev cJ1_charAt_3b067 : ByteArray := prog_16_method_2_code
def yJ1_charAt_3b067 : MethodName := ⟨RJ1, "charAt", "([BI)C"⟩
abbrev cJ1_canEncode_9a6ad : ByteArray := prog_16_method_4_code
def yJ1_canEncode_9a6ad : MethodName := ⟨RJ1, "canEncode", "(I)Z"⟩
abbrev cJ1_indexOf_4cfef : ByteArray := prog_16_method_22_code
def yJ1_indexOf_4cfef : MethodName := ⟨RJ1, "indexOf", "([BIII)I"⟩
abbrev cJ1_indexOfChar_4cfef : ByteArray := prog_16_method_23_code
def yJ1_indexOfChar_4cfef : MethodName := ⟨RJ1, "indexOfChar", "([BIII)I"⟩
def RJ2 : String := "java/lang/StringUTF16"
def TJ2 : u_T := fun k => match k with
  | _ => ("", "", "", false)
def tyJ2 : Nat → FieldType := fun k => match k with
  | _ => .int
theorem nmJ2 : ∀ a, a < 0 → ∀ b, b < 0 → a ≠ b → (TJ2 a).2.1 ≠ (TJ2 b).2.1 := by decide +kernel
theorem tyJ2_ok : ∀ k, k < 0 → parseFieldDescriptor (TJ2 k).2.2.1 = some (tyJ2 k) := by decide +kernel
abbrev cJ2_getChar_3b067 : ByteArray := prog_17_method_5_code
def yJ2_getChar_3b067 : MethodName := ⟨RJ2, "getChar", "([BI)C"⟩
abbrev cJ2_length_9d52b : ByteArray := prog_17_method_6_code
def yJ2_length_9d52b : MethodName := ⟨RJ2, "length", "([B)I"⟩
abbrev cJ2_indexOf_4cfef : ByteArray := prog_17_method_40_code
def yJ2_indexOf_4cfef : MethodName := ⟨RJ2, "indexOf", "([BIII)I"⟩
abbrev cJ2_indexOfChar_4cfef : ByteArray := prog_17_method_47_code
def yJ2_indexOfChar_4cfef : MethodName := ⟨RJ2, "indexOfChar", "([BIII)I"⟩
abbrev cJ2_indexOfCharUnsafe_4cfef : ByteArray := prog_17_method_48_code
def yJ2_indexOfCharUnsafe_4cfef : MethodName := ⟨RJ2, "indexOfCharUnsafe", "([BIII)I"⟩
abbrev cJ2_indexOfSupplementary_4cfef : ByteArray := prog_17_method_49_code
def yJ2_indexOfSupplementary_4cfef : MethodName := ⟨RJ2, "indexOfSupplementary", "([BIII)I"⟩
abbrev cJ2_charAt_3b067 : ByteArray := prog_17_method_83_code
def yJ2_charAt_3b067 : MethodName := ⟨RJ2, "charAt", "([BI)C"⟩
abbrev cJ2_checkIndex_2214a : ByteArray := prog_17_method_91_code
def yJ2_checkIndex_2214a : MethodName := ⟨RJ2, "checkIndex", "(I[B)V"⟩
abbrev cJ2_checkBoundsBeginEnd_d044e : ByteArray := prog_17_method_93_code
def yJ2_checkBoundsBeginEnd_d044e : MethodName := ⟨RJ2, "checkBoundsBeginEnd", "(II[B)V"⟩
def RJ10 : String := "java/lang/System"
def TJ10 : u_T := fun k => match k with
  | _ => ("", "", "", false)
def tyJ10 : Nat → FieldType := fun k => match k with
  | _ => .int
theorem nmJ10 : ∀ a, a < 0 → ∀ b, b < 0 → a ≠ b → (TJ10 a).2.1 ≠ (TJ10 b).2.1 := by decide +kernel
theorem tyJ10_ok : ∀ k, k < 0 → parseFieldDescriptor (TJ10 k).2.2.1 = some (tyJ10 k) := by decide +kernel
def RJ3 : String := "jdk/internal/util/Preconditions"
def TJ3 : u_T := fun k => match k with
  | _ => ("", "", "", false)
def tyJ3 : Nat → FieldType := fun k => match k with
  | _ => .int
theorem nmJ3 : ∀ a, a < 0 → ∀ b, b < 0 → a ≠ b → (TJ3 a).2.1 ≠ (TJ3 b).2.1 := by decide +kernel
theorem tyJ3_ok : ∀ k, k < 0 → parseFieldDescriptor (TJ3 k).2.2.1 = some (tyJ3 k) := by decide +kernel
abbrev cJ3_checkIndex_8e157 : ByteArray := prog_19_method_11_code
def yJ3_checkIndex_8e157 : MethodName := ⟨RJ3, "checkIndex", "(IILjava/util/function/BiFunction;)I"⟩
abbrev cJ3_checkFromToIndex_8c36e : ByteArray := prog_19_method_12_code
def yJ3_checkFromToIndex_8c36e : MethodName := ⟨RJ3, "checkFromToIndex", "(IIILjava/util/function/BiFunction;)I"⟩
def RL : String := "BenchSeatsLaw"
abbrev cL_law : ByteArray := code
def yL_law : MethodName := ⟨RL, "law", "([I)Z"⟩
abbrev vwCl : List vw_C := [(RX0, TX0, 4), (RX1, TX1, 11), (RX2, TX2, 4), (RX3, TX3, 3), (RX4, TX4, 4), (RX5, TX5, 4), (RX6, TX6, 14), (RX7, TX7, 4), (RX8, TX8, 10), (RX9, TX9, 35)]
end
section
theorem dX0_init_0 : decode cX0_init 0 = .ok (.aload_n 0, 1) := by decide +kernel
theorem dX0_init_1 : decode cX0_init 1 = .ok (.invokespecial 1, 3) := by decide +kernel
theorem dX0_init_4 : decode cX0_init 4 = .ok (.aload_n 0, 1) := by decide +kernel
theorem dX0_init_5 : decode cX0_init 5 = .ok (.bipush 9, 2) := by decide +kernel
theorem dX0_init_7 : decode cX0_init 7 = .ok (.putfield 7, 3) := by decide +kernel
theorem dX0_init_10 : decode cX0_init 10 = .ok (.aload_n 0, 1) := by decide +kernel
theorem dX0_init_11 : decode cX0_init 11 = .ok (.sipush 511, 3) := by decide +kernel
theorem dX0_init_14 : decode cX0_init 14 = .ok (.putfield 13, 3) := by decide +kernel
theorem dX0_init_17 : decode cX0_init 17 = .ok (.return_, 1) := by decide +kernel
theorem dX0_setUp_0 : decode cX0_setUp 0 = .ok (.aload_n 0, 1) := by decide +kernel
theorem dX0_setUp_1 : decode cX0_setUp 1 = .ok (.iload_n 1, 1) := by decide +kernel
theorem dX0_setUp_2 : decode cX0_setUp 2 = .ok (.putfield 7, 3) := by decide +kernel
theorem dX0_setUp_5 : decode cX0_setUp 5 = .ok (.aload_n 0, 1) := by decide +kernel
theorem dX0_setUp_6 : decode cX0_setUp 6 = .ok (.iload_n 2, 1) := by decide +kernel
theorem dX0_setUp_7 : decode cX0_setUp 7 = .ok (.putfield 16, 3) := by decide +kernel
theorem dX0_setUp_10 : decode cX0_setUp 10 = .ok (.aload_n 0, 1) := by decide +kernel
theorem dX0_setUp_11 : decode cX0_setUp 11 = .ok (.iload_n 3, 1) := by decide +kernel
theorem dX0_setUp_12 : decode cX0_setUp 12 = .ok (.putfield 19, 3) := by decide +kernel
theorem dX0_setUp_15 : decode cX0_setUp 15 = .ok (.aload_n 0, 1) := by decide +kernel
theorem dX0_setUp_16 : decode cX0_setUp 16 = .ok (.iconst 1, 1) := by decide +kernel
theorem dX0_setUp_17 : decode cX0_setUp 17 = .ok (.iload_n 1, 1) := by decide +kernel
theorem dX0_setUp_18 : decode cX0_setUp 18 = .ok (.ishl, 1) := by decide +kernel
theorem dX0_setUp_19 : decode cX0_setUp 19 = .ok (.iconst 1, 1) := by decide +kernel
theorem dX0_setUp_20 : decode cX0_setUp 20 = .ok (.isub, 1) := by decide +kernel
theorem dX0_setUp_21 : decode cX0_setUp 21 = .ok (.putfield 13, 3) := by decide +kernel
theorem dX0_setUp_24 : decode cX0_setUp 24 = .ok (.return_, 1) := by decide +kernel
theorem dX0_become_0 : decode cX0_become 0 = .ok (.aload_n 0, 1) := by decide +kernel
theorem dX0_become_1 : decode cX0_become 1 = .ok (.aload_n 1, 1) := by decide +kernel
theorem dX0_become_2 : decode cX0_become 2 = .ok (.getfield 7, 3) := by decide +kernel
theorem dX0_become_5 : decode cX0_become 5 = .ok (.aload_n 1, 1) := by decide +kernel
theorem dX0_become_6 : decode cX0_become 6 = .ok (.getfield 16, 3) := by decide +kernel
theorem dX0_become_9 : decode cX0_become 9 = .ok (.aload_n 1, 1) := by decide +kernel
theorem dX0_become_10 : decode cX0_become 10 = .ok (.getfield 19, 3) := by decide +kernel
theorem dX0_become_13 : decode cX0_become 13 = .ok (.invokevirtual 22, 3) := by decide +kernel
theorem dX0_become_16 : decode cX0_become 16 = .ok (.return_, 1) := by decide +kernel
theorem dX0_withAhead_0 : decode cX0_withAhead 0 = .ok (.aload_n 0, 1) := by decide +kernel
theorem dX0_withAhead_1 : decode cX0_withAhead 1 = .ok (.getfield 16, 3) := by decide +kernel
theorem dX0_withAhead_4 : decode cX0_withAhead 4 = .ok (.iconst 1, 1) := by decide +kernel
theorem dX0_withAhead_5 : decode cX0_withAhead 5 = .ok (.if_icmp .ne 14, 3) := by decide +kernel
theorem dX0_withAhead_8 : decode cX0_withAhead 8 = .ok (.iload_n 1, 1) := by decide +kernel
theorem dX0_withAhead_9 : decode cX0_withAhead 9 = .ok (.aload_n 0, 1) := by decide +kernel
theorem dX0_withAhead_10 : decode cX0_withAhead 10 = .ok (.getfield 7, 3) := by decide +kernel
theorem dX0_withAhead_13 : decode cX0_withAhead 13 = .ok (.iconst 1, 1) := by decide +kernel
theorem dX0_withAhead_14 : decode cX0_withAhead 14 = .ok (.isub, 1) := by decide +kernel
theorem dX0_withAhead_15 : decode cX0_withAhead 15 = .ok (.ishr, 1) := by decide +kernel
theorem dX0_withAhead_16 : decode cX0_withAhead 16 = .ok (.goto 4, 3) := by decide +kernel
theorem dX0_withAhead_19 : decode cX0_withAhead 19 = .ok (.iload_n 2, 1) := by decide +kernel
theorem dX0_withAhead_20 : decode cX0_withAhead 20 = .ok (.istore_n 3, 1) := by decide +kernel
theorem dX0_withAhead_21 : decode cX0_withAhead 21 = .ok (.iload_n 1, 1) := by decide +kernel
theorem dX0_withAhead_22 : decode cX0_withAhead 22 = .ok (.iconst 1, 1) := by decide +kernel
theorem dX0_withAhead_23 : decode cX0_withAhead 23 = .ok (.ishl, 1) := by decide +kernel
theorem dX0_withAhead_24 : decode cX0_withAhead 24 = .ok (.iload_n 3, 1) := by decide +kernel
theorem dX0_withAhead_25 : decode cX0_withAhead 25 = .ok (.ior, 1) := by decide +kernel
theorem dX0_withAhead_26 : decode cX0_withAhead 26 = .ok (.aload_n 0, 1) := by decide +kernel
theorem dX0_withAhead_27 : decode cX0_withAhead 27 = .ok (.getfield 13, 3) := by decide +kernel
theorem dX0_withAhead_30 : decode cX0_withAhead 30 = .ok (.iand, 1) := by decide +kernel
theorem dX0_withAhead_31 : decode cX0_withAhead 31 = .ok (.ireturn, 1) := by decide +kernel
theorem dX0_withBehind_0 : decode cX0_withBehind 0 = .ok (.aload_n 0, 1) := by decide +kernel
theorem dX0_withBehind_1 : decode cX0_withBehind 1 = .ok (.getfield 16, 3) := by decide +kernel
theorem dX0_withBehind_4 : decode cX0_withBehind 4 = .ok (.iconst 1, 1) := by decide +kernel
theorem dX0_withBehind_5 : decode cX0_withBehind 5 = .ok (.if_icmp .ne 9, 3) := by decide +kernel
theorem dX0_withBehind_8 : decode cX0_withBehind 8 = .ok (.iload_n 1, 1) := by decide +kernel
theorem dX0_withBehind_9 : decode cX0_withBehind 9 = .ok (.iconst 1, 1) := by decide +kernel
theorem dX0_withBehind_10 : decode cX0_withBehind 10 = .ok (.iand, 1) := by decide +kernel
theorem dX0_withBehind_11 : decode cX0_withBehind 11 = .ok (.goto 4, 3) := by decide +kernel
theorem dX0_withBehind_14 : decode cX0_withBehind 14 = .ok (.iload_n 2, 1) := by decide +kernel
theorem dX0_withBehind_15 : decode cX0_withBehind 15 = .ok (.istore_n 3, 1) := by decide +kernel
theorem dX0_withBehind_16 : decode cX0_withBehind 16 = .ok (.iload_n 1, 1) := by decide +kernel
theorem dX0_withBehind_17 : decode cX0_withBehind 17 = .ok (.iconst 1, 1) := by decide +kernel
theorem dX0_withBehind_18 : decode cX0_withBehind 18 = .ok (.ishr, 1) := by decide +kernel
theorem dX0_withBehind_19 : decode cX0_withBehind 19 = .ok (.iload_n 3, 1) := by decide +kernel
theorem dX0_withBehind_20 : decode cX0_withBehind 20 = .ok (.aload_n 0, 1) := by decide +kernel
theorem dX0_withBehind_21 : decode cX0_withBehind 21 = .ok (.getfield 7, 3) := by decide +kernel
theorem dX0_withBehind_24 : decode cX0_withBehind 24 = .ok (.iconst 1, 1) := by decide +kernel
theorem dX0_withBehind_25 : decode cX0_withBehind 25 = .ok (.isub, 1) := by decide +kernel
theorem dX0_withBehind_26 : decode cX0_withBehind 26 = .ok (.ishl, 1) := by decide +kernel
theorem dX0_withBehind_27 : decode cX0_withBehind 27 = .ok (.ior, 1) := by decide +kernel
theorem dX0_withBehind_28 : decode cX0_withBehind 28 = .ok (.ireturn, 1) := by decide +kernel
theorem dX0_ordinary_0 : decode cX0_ordinary 0 = .ok (.aload_n 0, 1) := by decide +kernel
theorem dX0_ordinary_1 : decode cX0_ordinary 1 = .ok (.getfield 13, 3) := by decide +kernel
theorem dX0_ordinary_4 : decode cX0_ordinary 4 = .ok (.iload_n 1, 1) := by decide +kernel
theorem dX0_ordinary_5 : decode cX0_ordinary 5 = .ok (.iconst (-1), 1) := by decide +kernel
theorem dX0_ordinary_6 : decode cX0_ordinary 6 = .ok (.ixor, 1) := by decide +kernel
theorem dX0_ordinary_7 : decode cX0_ordinary 7 = .ok (.iand, 1) := by decide +kernel
theorem dX0_ordinary_8 : decode cX0_ordinary 8 = .ok (.aload_n 0, 1) := by decide +kernel
theorem dX0_ordinary_9 : decode cX0_ordinary 9 = .ok (.iload_n 1, 1) := by decide +kernel
theorem dX0_ordinary_10 : decode cX0_ordinary 10 = .ok (.aload_n 0, 1) := by decide +kernel
theorem dX0_ordinary_11 : decode cX0_ordinary 11 = .ok (.getfield 19, 3) := by decide +kernel
theorem dX0_ordinary_14 : decode cX0_ordinary 14 = .ok (.invokevirtual 26, 3) := by decide +kernel
theorem dX0_ordinary_17 : decode cX0_ordinary 17 = .ok (.aload_n 0, 1) := by decide +kernel
theorem dX0_ordinary_18 : decode cX0_ordinary 18 = .ok (.iload_n 1, 1) := by decide +kernel
theorem dX0_ordinary_19 : decode cX0_ordinary 19 = .ok (.aload_n 0, 1) := by decide +kernel
theorem dX0_ordinary_20 : decode cX0_ordinary 20 = .ok (.getfield 19, 3) := by decide +kernel
theorem dX0_ordinary_23 : decode cX0_ordinary 23 = .ok (.invokevirtual 30, 3) := by decide +kernel
theorem dX0_ordinary_26 : decode cX0_ordinary 26 = .ok (.ixor, 1) := by decide +kernel
theorem dX0_ordinary_27 : decode cX0_ordinary 27 = .ok (.iconst (-1), 1) := by decide +kernel
theorem dX0_ordinary_28 : decode cX0_ordinary 28 = .ok (.ixor, 1) := by decide +kernel
theorem dX0_ordinary_29 : decode cX0_ordinary 29 = .ok (.iand, 1) := by decide +kernel
theorem dX0_ordinary_30 : decode cX0_ordinary 30 = .ok (.ireturn, 1) := by decide +kernel
theorem dX0_broad_0 : decode cX0_broad 0 = .ok (.aload_n 0, 1) := by decide +kernel
theorem dX0_broad_1 : decode cX0_broad 1 = .ok (.getfield 7, 3) := by decide +kernel
theorem dX0_broad_4 : decode cX0_broad 4 = .ok (.iconst 2, 1) := by decide +kernel
theorem dX0_broad_5 : decode cX0_broad 5 = .ok (.if_icmp .ge 5, 3) := by decide +kernel
theorem dX0_broad_8 : decode cX0_broad 8 = .ok (.iconst 0, 1) := by decide +kernel
theorem dX0_broad_9 : decode cX0_broad 9 = .ok (.ireturn, 1) := by decide +kernel
theorem dX0_broad_10 : decode cX0_broad 10 = .ok (.aload_n 0, 1) := by decide +kernel
theorem dX0_broad_11 : decode cX0_broad 11 = .ok (.getfield 13, 3) := by decide +kernel
theorem dX0_broad_14 : decode cX0_broad 14 = .ok (.iload_n 1, 1) := by decide +kernel
theorem dX0_broad_15 : decode cX0_broad 15 = .ok (.iconst (-1), 1) := by decide +kernel
theorem dX0_broad_16 : decode cX0_broad 16 = .ok (.ixor, 1) := by decide +kernel
theorem dX0_broad_17 : decode cX0_broad 17 = .ok (.iand, 1) := by decide +kernel
theorem dX0_broad_18 : decode cX0_broad 18 = .ok (.aload_n 0, 1) := by decide +kernel
theorem dX0_broad_19 : decode cX0_broad 19 = .ok (.iload_n 1, 1) := by decide +kernel
theorem dX0_broad_20 : decode cX0_broad 20 = .ok (.iconst 1, 1) := by decide +kernel
theorem dX0_broad_21 : decode cX0_broad 21 = .ok (.invokevirtual 30, 3) := by decide +kernel
theorem dX0_broad_24 : decode cX0_broad 24 = .ok (.iconst (-1), 1) := by decide +kernel
theorem dX0_broad_25 : decode cX0_broad 25 = .ok (.ixor, 1) := by decide +kernel
theorem dX0_broad_26 : decode cX0_broad 26 = .ok (.iand, 1) := by decide +kernel
theorem dX0_broad_27 : decode cX0_broad 27 = .ok (.istore_n 3, 1) := by decide +kernel
theorem dX0_broad_28 : decode cX0_broad 28 = .ok (.aload_n 0, 1) := by decide +kernel
theorem dX0_broad_29 : decode cX0_broad 29 = .ok (.iload_n 1, 1) := by decide +kernel
theorem dX0_broad_30 : decode cX0_broad 30 = .ok (.aload_n 0, 1) := by decide +kernel
theorem dX0_broad_31 : decode cX0_broad 31 = .ok (.getfield 19, 3) := by decide +kernel
theorem dX0_broad_34 : decode cX0_broad 34 = .ok (.invokevirtual 26, 3) := by decide +kernel
theorem dX0_broad_37 : decode cX0_broad 37 = .ok (.istore 4, 2) := by decide +kernel
theorem dX0_broad_39 : decode cX0_broad 39 = .ok (.aload_n 0, 1) := by decide +kernel
theorem dX0_broad_40 : decode cX0_broad 40 = .ok (.aload_n 0, 1) := by decide +kernel
theorem dX0_broad_41 : decode cX0_broad 41 = .ok (.iload_n 1, 1) := by decide +kernel
theorem dX0_broad_42 : decode cX0_broad 42 = .ok (.aload_n 0, 1) := by decide +kernel
theorem dX0_broad_43 : decode cX0_broad 43 = .ok (.getfield 19, 3) := by decide +kernel
theorem dX0_broad_46 : decode cX0_broad 46 = .ok (.invokevirtual 30, 3) := by decide +kernel
theorem dX0_broad_49 : decode cX0_broad 49 = .ok (.aload_n 0, 1) := by decide +kernel
theorem dX0_broad_50 : decode cX0_broad 50 = .ok (.getfield 19, 3) := by decide +kernel
theorem dX0_broad_53 : decode cX0_broad 53 = .ok (.invokevirtual 30, 3) := by decide +kernel
theorem dX0_broad_56 : decode cX0_broad 56 = .ok (.istore 5, 2) := by decide +kernel
theorem dX0_broad_58 : decode cX0_broad 58 = .ok (.iload_n 3, 1) := by decide +kernel
theorem dX0_broad_59 : decode cX0_broad 59 = .ok (.iload_n 2, 1) := by decide +kernel
theorem dX0_broad_60 : decode cX0_broad 60 = .ok (.ifCond .eq 11, 3) := by decide +kernel
theorem dX0_broad_63 : decode cX0_broad 63 = .ok (.iload 4, 2) := by decide +kernel
theorem dX0_broad_65 : decode cX0_broad 65 = .ok (.iload 5, 2) := by decide +kernel
theorem dX0_broad_67 : decode cX0_broad 67 = .ok (.ior, 1) := by decide +kernel
theorem dX0_broad_68 : decode cX0_broad 68 = .ok (.goto 8, 3) := by decide +kernel
theorem dX0_broad_71 : decode cX0_broad 71 = .ok (.iload 4, 2) := by decide +kernel
theorem dX0_broad_73 : decode cX0_broad 73 = .ok (.iload 5, 2) := by decide +kernel
theorem dX0_broad_75 : decode cX0_broad 75 = .ok (.ixor, 1) := by decide +kernel
theorem dX0_broad_76 : decode cX0_broad 76 = .ok (.iconst (-1), 1) := by decide +kernel
theorem dX0_broad_77 : decode cX0_broad 77 = .ok (.ixor, 1) := by decide +kernel
theorem dX0_broad_78 : decode cX0_broad 78 = .ok (.iand, 1) := by decide +kernel
theorem dX0_broad_79 : decode cX0_broad 79 = .ok (.ireturn, 1) := by decide +kernel
theorem dX1_init_0 : decode cX1_init 0 = .ok (.aload_n 0, 1) := by decide +kernel
theorem dX1_init_1 : decode cX1_init 1 = .ok (.invokespecial 3, 3) := by decide +kernel
theorem dX1_init_4 : decode cX1_init 4 = .ok (.aload_n 0, 1) := by decide +kernel
theorem dX1_init_5 : decode cX1_init 5 = .ok (.new 9, 3) := by decide +kernel
theorem dX1_init_8 : decode cX1_init 8 = .ok (.dup, 1) := by decide +kernel
theorem dX1_init_9 : decode cX1_init 9 = .ok (.invokespecial 11, 3) := by decide +kernel
theorem dX1_init_12 : decode cX1_init 12 = .ok (.putfield 12, 3) := by decide +kernel
theorem dX1_init_15 : decode cX1_init 15 = .ok (.aload_n 0, 1) := by decide +kernel
theorem dX1_init_16 : decode cX1_init 16 = .ok (.bipush 12, 2) := by decide +kernel
theorem dX1_init_18 : decode cX1_init 18 = .ok (.anewarray 18, 3) := by decide +kernel
theorem dX1_init_21 : decode cX1_init 21 = .ok (.putfield 20, 3) := by decide +kernel
theorem dX1_init_24 : decode cX1_init 24 = .ok (.aload_n 0, 1) := by decide +kernel
theorem dX1_init_25 : decode cX1_init 25 = .ok (.bipush 12, 2) := by decide +kernel
theorem dX1_init_27 : decode cX1_init 27 = .ok (.newarray .int, 2) := by decide +kernel
theorem dX1_init_29 : decode cX1_init 29 = .ok (.putfield 24, 3) := by decide +kernel
theorem dX1_init_32 : decode cX1_init 32 = .ok (.aload_n 0, 1) := by decide +kernel
theorem dX1_init_33 : decode cX1_init 33 = .ok (.iconst 4, 1) := by decide +kernel
theorem dX1_init_34 : decode cX1_init 34 = .ok (.newarray .int, 2) := by decide +kernel
theorem dX1_init_36 : decode cX1_init 36 = .ok (.dup, 1) := by decide +kernel
theorem dX1_init_37 : decode cX1_init 37 = .ok (.iconst 0, 1) := by decide +kernel
theorem dX1_init_38 : decode cX1_init 38 = .ok (.iconst 1, 1) := by decide +kernel
theorem dX1_init_39 : decode cX1_init 39 = .ok (.iastore, 1) := by decide +kernel
theorem dX1_init_40 : decode cX1_init 40 = .ok (.dup, 1) := by decide +kernel
theorem dX1_init_41 : decode cX1_init 41 = .ok (.iconst 1, 1) := by decide +kernel
theorem dX1_init_42 : decode cX1_init 42 = .ok (.iconst 0, 1) := by decide +kernel
theorem dX1_init_43 : decode cX1_init 43 = .ok (.iastore, 1) := by decide +kernel
theorem dX1_init_44 : decode cX1_init 44 = .ok (.dup, 1) := by decide +kernel
theorem dX1_init_45 : decode cX1_init 45 = .ok (.iconst 2, 1) := by decide +kernel
theorem dX1_init_46 : decode cX1_init 46 = .ok (.bipush 50, 2) := by decide +kernel
theorem dX1_init_48 : decode cX1_init 48 = .ok (.iastore, 1) := by decide +kernel
theorem dX1_init_49 : decode cX1_init 49 = .ok (.dup, 1) := by decide +kernel
theorem dX1_init_50 : decode cX1_init 50 = .ok (.iconst 3, 1) := by decide +kernel
theorem dX1_init_51 : decode cX1_init 51 = .ok (.bipush 10, 2) := by decide +kernel
theorem dX1_init_53 : decode cX1_init 53 = .ok (.iastore, 1) := by decide +kernel
theorem dX1_init_54 : decode cX1_init 54 = .ok (.putfield 28, 3) := by decide +kernel
theorem dX1_init_57 : decode cX1_init 57 = .ok (.aload_n 0, 1) := by decide +kernel
theorem dX1_init_58 : decode cX1_init 58 = .ok (.iconst 1, 1) := by decide +kernel
theorem dX1_init_59 : decode cX1_init 59 = .ok (.putfield 31, 3) := by decide +kernel
theorem dX1_init_62 : decode cX1_init 62 = .ok (.aload_n 0, 1) := by decide +kernel
theorem dX1_init_63 : decode cX1_init 63 = .ok (.bipush 14, 2) := by decide +kernel
theorem dX1_init_65 : decode cX1_init 65 = .ok (.anewarray 35, 3) := by decide +kernel
theorem dX1_init_68 : decode cX1_init 68 = .ok (.putfield 37, 3) := by decide +kernel
theorem dX1_init_71 : decode cX1_init 71 = .ok (.aload_n 0, 1) := by decide +kernel
theorem dX1_init_72 : decode cX1_init 72 = .ok (.iconst 3, 1) := by decide +kernel
theorem dX1_init_73 : decode cX1_init 73 = .ok (.newarray .int, 2) := by decide +kernel
theorem dX1_init_75 : decode cX1_init 75 = .ok (.dup, 1) := by decide +kernel
theorem dX1_init_76 : decode cX1_init 76 = .ok (.iconst 0, 1) := by decide +kernel
theorem dX1_init_77 : decode cX1_init 77 = .ok (.ldc 41, 2) := by decide +kernel
theorem dX1_init_79 : decode cX1_init 79 = .ok (.iastore, 1) := by decide +kernel
theorem dX1_init_80 : decode cX1_init 80 = .ok (.dup, 1) := by decide +kernel
theorem dX1_init_81 : decode cX1_init 81 = .ok (.iconst 1, 1) := by decide +kernel
theorem dX1_init_82 : decode cX1_init 82 = .ok (.ldc 41, 2) := by decide +kernel
theorem dX1_init_84 : decode cX1_init 84 = .ok (.iastore, 1) := by decide +kernel
theorem dX1_init_85 : decode cX1_init 85 = .ok (.dup, 1) := by decide +kernel
theorem dX1_init_86 : decode cX1_init 86 = .ok (.iconst 2, 1) := by decide +kernel
theorem dX1_init_87 : decode cX1_init 87 = .ok (.ldc 41, 2) := by decide +kernel
theorem dX1_init_89 : decode cX1_init 89 = .ok (.iastore, 1) := by decide +kernel
theorem dX1_init_90 : decode cX1_init 90 = .ok (.putfield 42, 3) := by decide +kernel
theorem dX1_init_93 : decode cX1_init 93 = .ok (.iconst 0, 1) := by decide +kernel
theorem dX1_init_94 : decode cX1_init 94 = .ok (.istore_n 1, 1) := by decide +kernel
theorem dX1_init_95 : decode cX1_init 95 = .ok (.iload_n 1, 1) := by decide +kernel
theorem dX1_init_96 : decode cX1_init 96 = .ok (.bipush 12, 2) := by decide +kernel
theorem dX1_init_98 : decode cX1_init 98 = .ok (.if_icmp .ge 22, 3) := by decide +kernel
theorem dX1_init_101 : decode cX1_init 101 = .ok (.aload_n 0, 1) := by decide +kernel
theorem dX1_init_102 : decode cX1_init 102 = .ok (.getfield 20, 3) := by decide +kernel
theorem dX1_init_105 : decode cX1_init 105 = .ok (.iload_n 1, 1) := by decide +kernel
theorem dX1_init_106 : decode cX1_init 106 = .ok (.new 18, 3) := by decide +kernel
theorem dX1_init_109 : decode cX1_init 109 = .ok (.dup, 1) := by decide +kernel
theorem dX1_init_110 : decode cX1_init 110 = .ok (.invokespecial 45, 3) := by decide +kernel
theorem dX1_init_113 : decode cX1_init 113 = .ok (.aastore, 1) := by decide +kernel
theorem dX1_init_114 : decode cX1_init 114 = .ok (.iinc 1 1, 3) := by decide +kernel
theorem dX1_init_117 : decode cX1_init 117 = .ok (.goto (-22), 3) := by decide +kernel
theorem dX1_init_120 : decode cX1_init 120 = .ok (.return_, 1) := by decide +kernel
theorem dX1_become_0 : decode cX1_become 0 = .ok (.aload_n 0, 1) := by decide +kernel
theorem dX1_become_1 : decode cX1_become 1 = .ok (.getfield 12, 3) := by decide +kernel
theorem dX1_become_4 : decode cX1_become 4 = .ok (.aload_n 1, 1) := by decide +kernel
theorem dX1_become_5 : decode cX1_become 5 = .ok (.getfield 12, 3) := by decide +kernel
theorem dX1_become_8 : decode cX1_become 8 = .ok (.invokevirtual 46, 3) := by decide +kernel
theorem dX1_become_11 : decode cX1_become 11 = .ok (.aload_n 0, 1) := by decide +kernel
theorem dX1_become_12 : decode cX1_become 12 = .ok (.aload_n 1, 1) := by decide +kernel
theorem dX1_become_13 : decode cX1_become 13 = .ok (.getfield 50, 3) := by decide +kernel
theorem dX1_become_16 : decode cX1_become 16 = .ok (.putfield 50, 3) := by decide +kernel
theorem dX1_become_19 : decode cX1_become 19 = .ok (.iconst 0, 1) := by decide +kernel
theorem dX1_become_20 : decode cX1_become 20 = .ok (.istore_n 2, 1) := by decide +kernel
theorem dX1_become_21 : decode cX1_become 21 = .ok (.iload_n 2, 1) := by decide +kernel
theorem dX1_become_22 : decode cX1_become 22 = .ok (.aload_n 0, 1) := by decide +kernel
theorem dX1_become_23 : decode cX1_become 23 = .ok (.getfield 50, 3) := by decide +kernel
theorem dX1_become_26 : decode cX1_become 26 = .ok (.if_icmp .ge 24, 3) := by decide +kernel
theorem dX1_become_29 : decode cX1_become 29 = .ok (.aload_n 0, 1) := by decide +kernel
theorem dX1_become_30 : decode cX1_become 30 = .ok (.getfield 20, 3) := by decide +kernel
theorem dX1_become_33 : decode cX1_become 33 = .ok (.iload_n 2, 1) := by decide +kernel
theorem dX1_become_34 : decode cX1_become 34 = .ok (.aaload, 1) := by decide +kernel
theorem dX1_become_35 : decode cX1_become 35 = .ok (.aload_n 1, 1) := by decide +kernel
theorem dX1_become_36 : decode cX1_become 36 = .ok (.getfield 20, 3) := by decide +kernel
theorem dX1_become_39 : decode cX1_become 39 = .ok (.iload_n 2, 1) := by decide +kernel
theorem dX1_become_40 : decode cX1_become 40 = .ok (.aaload, 1) := by decide +kernel
theorem dX1_become_41 : decode cX1_become 41 = .ok (.invokevirtual 53, 3) := by decide +kernel
theorem dX1_become_44 : decode cX1_become 44 = .ok (.iinc 2 1, 3) := by decide +kernel
theorem dX1_become_47 : decode cX1_become 47 = .ok (.goto (-26), 3) := by decide +kernel
theorem dX1_become_50 : decode cX1_become 50 = .ok (.aload_n 1, 1) := by decide +kernel
theorem dX1_become_51 : decode cX1_become 51 = .ok (.getfield 24, 3) := by decide +kernel
theorem dX1_become_54 : decode cX1_become 54 = .ok (.iconst 0, 1) := by decide +kernel
theorem dX1_become_55 : decode cX1_become 55 = .ok (.aload_n 0, 1) := by decide +kernel
theorem dX1_become_56 : decode cX1_become 56 = .ok (.getfield 24, 3) := by decide +kernel
theorem dX1_become_59 : decode cX1_become 59 = .ok (.iconst 0, 1) := by decide +kernel
theorem dX1_become_60 : decode cX1_become 60 = .ok (.bipush 12, 2) := by decide +kernel
theorem dX1_become_62 : decode cX1_become 62 = .ok (.invokestatic 56, 3) := by decide +kernel
theorem dX1_become_65 : decode cX1_become 65 = .ok (.aload_n 1, 1) := by decide +kernel
theorem dX1_become_66 : decode cX1_become 66 = .ok (.getfield 28, 3) := by decide +kernel
theorem dX1_become_69 : decode cX1_become 69 = .ok (.iconst 0, 1) := by decide +kernel
theorem dX1_become_70 : decode cX1_become 70 = .ok (.aload_n 0, 1) := by decide +kernel
theorem dX1_become_71 : decode cX1_become 71 = .ok (.getfield 28, 3) := by decide +kernel
theorem dX1_become_74 : decode cX1_become 74 = .ok (.iconst 0, 1) := by decide +kernel
theorem dX1_become_75 : decode cX1_become 75 = .ok (.aload_n 0, 1) := by decide +kernel
theorem dX1_become_76 : decode cX1_become 76 = .ok (.getfield 28, 3) := by decide +kernel
theorem dX1_become_79 : decode cX1_become 79 = .ok (.arraylength, 1) := by decide +kernel
theorem dX1_become_80 : decode cX1_become 80 = .ok (.invokestatic 56, 3) := by decide +kernel
theorem dX1_become_83 : decode cX1_become 83 = .ok (.aload_n 0, 1) := by decide +kernel
theorem dX1_become_84 : decode cX1_become 84 = .ok (.aload_n 1, 1) := by decide +kernel
theorem dX1_become_85 : decode cX1_become 85 = .ok (.getfield 62, 3) := by decide +kernel
theorem dX1_become_88 : decode cX1_become 88 = .ok (.putfield 62, 3) := by decide +kernel
theorem dX1_become_91 : decode cX1_become 91 = .ok (.aload_n 0, 1) := by decide +kernel
theorem dX1_become_92 : decode cX1_become 92 = .ok (.aload_n 1, 1) := by decide +kernel
theorem dX1_become_93 : decode cX1_become 93 = .ok (.getfield 65, 3) := by decide +kernel
theorem dX1_become_96 : decode cX1_become 96 = .ok (.putfield 65, 3) := by decide +kernel
theorem dX1_become_99 : decode cX1_become 99 = .ok (.aload_n 0, 1) := by decide +kernel
theorem dX1_become_100 : decode cX1_become 100 = .ok (.aload_n 1, 1) := by decide +kernel
theorem dX1_become_101 : decode cX1_become 101 = .ok (.getfield 31, 3) := by decide +kernel
theorem dX1_become_104 : decode cX1_become 104 = .ok (.putfield 31, 3) := by decide +kernel
theorem dX1_become_107 : decode cX1_become 107 = .ok (.aload_n 0, 1) := by decide +kernel
theorem dX1_become_108 : decode cX1_become 108 = .ok (.aload_n 1, 1) := by decide +kernel
theorem dX1_become_109 : decode cX1_become 109 = .ok (.getfield 68, 3) := by decide +kernel
theorem dX1_become_112 : decode cX1_become 112 = .ok (.putfield 68, 3) := by decide +kernel
theorem dX1_become_115 : decode cX1_become 115 = .ok (.iconst 0, 1) := by decide +kernel
theorem dX1_become_116 : decode cX1_become 116 = .ok (.istore_n 2, 1) := by decide +kernel
theorem dX1_become_117 : decode cX1_become 117 = .ok (.iload_n 2, 1) := by decide +kernel
theorem dX1_become_118 : decode cX1_become 118 = .ok (.aload_n 0, 1) := by decide +kernel
theorem dX1_become_119 : decode cX1_become 119 = .ok (.getfield 68, 3) := by decide +kernel
theorem dX1_become_122 : decode cX1_become 122 = .ok (.if_icmp .ge 21, 3) := by decide +kernel
theorem dX1_become_125 : decode cX1_become 125 = .ok (.aload_n 0, 1) := by decide +kernel
theorem dX1_become_126 : decode cX1_become 126 = .ok (.getfield 37, 3) := by decide +kernel
theorem dX1_become_129 : decode cX1_become 129 = .ok (.iload_n 2, 1) := by decide +kernel
theorem dX1_become_130 : decode cX1_become 130 = .ok (.aload_n 1, 1) := by decide +kernel
theorem dX1_become_131 : decode cX1_become 131 = .ok (.getfield 37, 3) := by decide +kernel
theorem dX1_become_134 : decode cX1_become 134 = .ok (.iload_n 2, 1) := by decide +kernel
theorem dX1_become_135 : decode cX1_become 135 = .ok (.aaload, 1) := by decide +kernel
theorem dX1_become_136 : decode cX1_become 136 = .ok (.aastore, 1) := by decide +kernel
theorem dX1_become_137 : decode cX1_become 137 = .ok (.iinc 2 1, 3) := by decide +kernel
theorem dX1_become_140 : decode cX1_become 140 = .ok (.goto (-23), 3) := by decide +kernel
theorem dX1_become_143 : decode cX1_become 143 = .ok (.aload_n 1, 1) := by decide +kernel
theorem dX1_become_144 : decode cX1_become 144 = .ok (.getfield 42, 3) := by decide +kernel
theorem dX1_become_147 : decode cX1_become 147 = .ok (.iconst 0, 1) := by decide +kernel
theorem dX1_become_148 : decode cX1_become 148 = .ok (.aload_n 0, 1) := by decide +kernel
theorem dX1_become_149 : decode cX1_become 149 = .ok (.getfield 42, 3) := by decide +kernel
theorem dX1_become_152 : decode cX1_become 152 = .ok (.iconst 0, 1) := by decide +kernel
theorem dX1_become_153 : decode cX1_become 153 = .ok (.aload_n 0, 1) := by decide +kernel
theorem dX1_become_154 : decode cX1_become 154 = .ok (.getfield 42, 3) := by decide +kernel
theorem dX1_become_157 : decode cX1_become 157 = .ok (.arraylength, 1) := by decide +kernel
theorem dX1_become_158 : decode cX1_become 158 = .ok (.invokestatic 56, 3) := by decide +kernel
theorem dX1_become_161 : decode cX1_become 161 = .ok (.return_, 1) := by decide +kernel
theorem dX1_setUp_0 : decode cX1_setUp 0 = .ok (.aload_n 0, 1) := by decide +kernel
theorem dX1_setUp_1 : decode cX1_setUp 1 = .ok (.invokevirtual 71, 3) := by decide +kernel
theorem dX1_setUp_4 : decode cX1_setUp 4 = .ok (.istore 4, 2) := by decide +kernel
theorem dX1_setUp_6 : decode cX1_setUp 6 = .ok (.aload_n 0, 1) := by decide +kernel
theorem dX1_setUp_7 : decode cX1_setUp 7 = .ok (.getfield 12, 3) := by decide +kernel
theorem dX1_setUp_10 : decode cX1_setUp 10 = .ok (.iload_n 1, 1) := by decide +kernel
theorem dX1_setUp_11 : decode cX1_setUp 11 = .ok (.iload_n 2, 1) := by decide +kernel
theorem dX1_setUp_12 : decode cX1_setUp 12 = .ok (.iload_n 3, 1) := by decide +kernel
theorem dX1_setUp_13 : decode cX1_setUp 13 = .ok (.invokevirtual 75, 3) := by decide +kernel
theorem dX1_setUp_16 : decode cX1_setUp 16 = .ok (.iconst 0, 1) := by decide +kernel
theorem dX1_setUp_17 : decode cX1_setUp 17 = .ok (.istore 5, 2) := by decide +kernel
theorem dX1_setUp_19 : decode cX1_setUp 19 = .ok (.iload 5, 2) := by decide +kernel
theorem dX1_setUp_21 : decode cX1_setUp 21 = .ok (.aload_n 0, 1) := by decide +kernel
theorem dX1_setUp_22 : decode cX1_setUp 22 = .ok (.getfield 50, 3) := by decide +kernel
theorem dX1_setUp_25 : decode cX1_setUp 25 = .ok (.if_icmp .ge 20, 3) := by decide +kernel
theorem dX1_setUp_28 : decode cX1_setUp 28 = .ok (.aload_n 0, 1) := by decide +kernel
theorem dX1_setUp_29 : decode cX1_setUp 29 = .ok (.getfield 20, 3) := by decide +kernel
theorem dX1_setUp_32 : decode cX1_setUp 32 = .ok (.iload 5, 2) := by decide +kernel
theorem dX1_setUp_34 : decode cX1_setUp 34 = .ok (.aaload, 1) := by decide +kernel
theorem dX1_setUp_35 : decode cX1_setUp 35 = .ok (.iconst (-1), 1) := by decide +kernel
theorem dX1_setUp_36 : decode cX1_setUp 36 = .ok (.putfield 79, 3) := by decide +kernel
theorem dX1_setUp_39 : decode cX1_setUp 39 = .ok (.iinc 5 1, 3) := by decide +kernel
theorem dX1_setUp_42 : decode cX1_setUp 42 = .ok (.goto (-23), 3) := by decide +kernel
theorem dX1_setUp_45 : decode cX1_setUp 45 = .ok (.iconst 0, 1) := by decide +kernel
theorem dX1_setUp_46 : decode cX1_setUp 46 = .ok (.istore 5, 2) := by decide +kernel
theorem dX1_setUp_48 : decode cX1_setUp 48 = .ok (.iload 5, 2) := by decide +kernel
theorem dX1_setUp_50 : decode cX1_setUp 50 = .ok (.bipush 12, 2) := by decide +kernel
theorem dX1_setUp_52 : decode cX1_setUp 52 = .ok (.if_icmp .ge 17, 3) := by decide +kernel
theorem dX1_setUp_55 : decode cX1_setUp 55 = .ok (.aload_n 0, 1) := by decide +kernel
theorem dX1_setUp_56 : decode cX1_setUp 56 = .ok (.getfield 24, 3) := by decide +kernel
theorem dX1_setUp_59 : decode cX1_setUp 59 = .ok (.iload 5, 2) := by decide +kernel
theorem dX1_setUp_61 : decode cX1_setUp 61 = .ok (.iconst 0, 1) := by decide +kernel
theorem dX1_setUp_62 : decode cX1_setUp 62 = .ok (.iastore, 1) := by decide +kernel
theorem dX1_setUp_63 : decode cX1_setUp 63 = .ok (.iinc 5 1, 3) := by decide +kernel
theorem dX1_setUp_66 : decode cX1_setUp 66 = .ok (.goto (-18), 3) := by decide +kernel
theorem dX1_setUp_69 : decode cX1_setUp 69 = .ok (.iload 4, 2) := by decide +kernel
theorem dX1_setUp_71 : decode cX1_setUp 71 = .ok (.ireturn, 1) := by decide +kernel
theorem dX1_welcome_0 : decode cX1_welcome 0 = .ok (.aload_n 0, 1) := by decide +kernel
theorem dX1_welcome_1 : decode cX1_welcome 1 = .ok (.getfield 50, 3) := by decide +kernel
theorem dX1_welcome_4 : decode cX1_welcome 4 = .ok (.bipush 12, 2) := by decide +kernel
theorem dX1_welcome_6 : decode cX1_welcome 6 = .ok (.if_icmp .lt 6, 3) := by decide +kernel
theorem dX1_welcome_9 : decode cX1_welcome 9 = .ok (.ldc 82, 2) := by decide +kernel
theorem dX1_welcome_11 : decode cX1_welcome 11 = .ok (.ireturn, 1) := by decide +kernel
theorem dX1_welcome_12 : decode cX1_welcome 12 = .ok (.aload_n 0, 1) := by decide +kernel
theorem dX1_welcome_13 : decode cX1_welcome 13 = .ok (.getfield 20, 3) := by decide +kernel
theorem dX1_welcome_16 : decode cX1_welcome 16 = .ok (.aload_n 0, 1) := by decide +kernel
theorem dX1_welcome_17 : decode cX1_welcome 17 = .ok (.getfield 50, 3) := by decide +kernel
theorem dX1_welcome_20 : decode cX1_welcome 20 = .ok (.aaload, 1) := by decide +kernel
theorem dX1_welcome_21 : decode cX1_welcome 21 = .ok (.iload_n 1, 1) := by decide +kernel
theorem dX1_welcome_22 : decode cX1_welcome 22 = .ok (.invokevirtual 83, 3) := by decide +kernel
theorem dX1_welcome_25 : decode cX1_welcome 25 = .ok (.aload_n 0, 1) := by decide +kernel
theorem dX1_welcome_26 : decode cX1_welcome 26 = .ok (.dup, 1) := by decide +kernel
theorem dX1_welcome_27 : decode cX1_welcome 27 = .ok (.getfield 50, 3) := by decide +kernel
theorem dX1_welcome_30 : decode cX1_welcome 30 = .ok (.iconst 1, 1) := by decide +kernel
theorem dX1_welcome_31 : decode cX1_welcome 31 = .ok (.iadd, 1) := by decide +kernel
theorem dX1_welcome_32 : decode cX1_welcome 32 = .ok (.putfield 50, 3) := by decide +kernel
theorem dX1_welcome_35 : decode cX1_welcome 35 = .ok (.aload_n 0, 1) := by decide +kernel
theorem dX1_welcome_36 : decode cX1_welcome 36 = .ok (.getfield 50, 3) := by decide +kernel
theorem dX1_welcome_39 : decode cX1_welcome 39 = .ok (.iconst 1, 1) := by decide +kernel
theorem dX1_welcome_40 : decode cX1_welcome 40 = .ok (.isub, 1) := by decide +kernel
theorem dX1_welcome_41 : decode cX1_welcome 41 = .ok (.ireturn, 1) := by decide +kernel
theorem dX1_placesOf_0 : decode cX1_placesOf 0 = .ok (.aload_n 1, 1) := by decide +kernel
theorem dX1_placesOf_1 : decode cX1_placesOf 1 = .ok (.invokevirtual 87, 3) := by decide +kernel
theorem dX1_placesOf_4 : decode cX1_placesOf 4 = .ok (.ifCond .ne 5, 3) := by decide +kernel
theorem dX1_placesOf_7 : decode cX1_placesOf 7 = .ok (.iconst 0, 1) := by decide +kernel
theorem dX1_placesOf_8 : decode cX1_placesOf 8 = .ok (.ireturn, 1) := by decide +kernel
theorem dX1_placesOf_9 : decode cX1_placesOf 9 = .ok (.iconst 1, 1) := by decide +kernel
theorem dX1_placesOf_10 : decode cX1_placesOf 10 = .ok (.aload_n 1, 1) := by decide +kernel
theorem dX1_placesOf_11 : decode cX1_placesOf 11 = .ok (.getfield 79, 3) := by decide +kernel
theorem dX1_placesOf_14 : decode cX1_placesOf 14 = .ok (.ishl, 1) := by decide +kernel
theorem dX1_placesOf_15 : decode cX1_placesOf 15 = .ok (.istore_n 2, 1) := by decide +kernel
theorem dX1_placesOf_16 : decode cX1_placesOf 16 = .ok (.aload_n 1, 1) := by decide +kernel
theorem dX1_placesOf_17 : decode cX1_placesOf 17 = .ok (.iconst 1, 1) := by decide +kernel
theorem dX1_placesOf_18 : decode cX1_placesOf 18 = .ok (.invokevirtual 91, 3) := by decide +kernel
theorem dX1_placesOf_21 : decode cX1_placesOf 21 = .ok (.ifCond .ne 5, 3) := by decide +kernel
theorem dX1_placesOf_24 : decode cX1_placesOf 24 = .ok (.iload_n 2, 1) := by decide +kernel
theorem dX1_placesOf_25 : decode cX1_placesOf 25 = .ok (.ireturn, 1) := by decide +kernel
theorem dX1_placesOf_26 : decode cX1_placesOf 26 = .ok (.aload_n 1, 1) := by decide +kernel
theorem dX1_placesOf_27 : decode cX1_placesOf 27 = .ok (.getfield 79, 3) := by decide +kernel
theorem dX1_placesOf_30 : decode cX1_placesOf 30 = .ok (.iconst 1, 1) := by decide +kernel
theorem dX1_placesOf_31 : decode cX1_placesOf 31 = .ok (.iadd, 1) := by decide +kernel
theorem dX1_placesOf_32 : decode cX1_placesOf 32 = .ok (.aload_n 0, 1) := by decide +kernel
theorem dX1_placesOf_33 : decode cX1_placesOf 33 = .ok (.getfield 12, 3) := by decide +kernel
theorem dX1_placesOf_36 : decode cX1_placesOf 36 = .ok (.getfield 95, 3) := by decide +kernel
theorem dX1_placesOf_39 : decode cX1_placesOf 39 = .ok (.if_icmp .ge 12, 3) := by decide +kernel
theorem dX1_placesOf_42 : decode cX1_placesOf 42 = .ok (.aload_n 1, 1) := by decide +kernel
theorem dX1_placesOf_43 : decode cX1_placesOf 43 = .ok (.getfield 79, 3) := by decide +kernel
theorem dX1_placesOf_46 : decode cX1_placesOf 46 = .ok (.iconst 1, 1) := by decide +kernel
theorem dX1_placesOf_47 : decode cX1_placesOf 47 = .ok (.iadd, 1) := by decide +kernel
theorem dX1_placesOf_48 : decode cX1_placesOf 48 = .ok (.goto 4, 3) := by decide +kernel
theorem dX1_placesOf_51 : decode cX1_placesOf 51 = .ok (.iconst 0, 1) := by decide +kernel
theorem dX1_placesOf_52 : decode cX1_placesOf 52 = .ok (.istore_n 3, 1) := by decide +kernel
theorem dX1_placesOf_53 : decode cX1_placesOf 53 = .ok (.iload_n 2, 1) := by decide +kernel
theorem dX1_placesOf_54 : decode cX1_placesOf 54 = .ok (.iconst 1, 1) := by decide +kernel
theorem dX1_placesOf_55 : decode cX1_placesOf 55 = .ok (.iload_n 3, 1) := by decide +kernel
theorem dX1_placesOf_56 : decode cX1_placesOf 56 = .ok (.ishl, 1) := by decide +kernel
theorem dX1_placesOf_57 : decode cX1_placesOf 57 = .ok (.ior, 1) := by decide +kernel
theorem dX1_placesOf_58 : decode cX1_placesOf 58 = .ok (.ireturn, 1) := by decide +kernel
theorem dX1_taken_0 : decode cX1_taken 0 = .ok (.iconst 0, 1) := by decide +kernel
theorem dX1_taken_1 : decode cX1_taken 1 = .ok (.istore_n 1, 1) := by decide +kernel
theorem dX1_taken_2 : decode cX1_taken 2 = .ok (.iconst 0, 1) := by decide +kernel
theorem dX1_taken_3 : decode cX1_taken 3 = .ok (.istore_n 2, 1) := by decide +kernel
theorem dX1_taken_4 : decode cX1_taken 4 = .ok (.iload_n 2, 1) := by decide +kernel
theorem dX1_taken_5 : decode cX1_taken 5 = .ok (.aload_n 0, 1) := by decide +kernel
theorem dX1_taken_6 : decode cX1_taken 6 = .ok (.getfield 50, 3) := by decide +kernel
theorem dX1_taken_9 : decode cX1_taken 9 = .ok (.if_icmp .ge 22, 3) := by decide +kernel
theorem dX1_taken_12 : decode cX1_taken 12 = .ok (.iload_n 1, 1) := by decide +kernel
theorem dX1_taken_13 : decode cX1_taken 13 = .ok (.aload_n 0, 1) := by decide +kernel
theorem dX1_taken_14 : decode cX1_taken 14 = .ok (.aload_n 0, 1) := by decide +kernel
theorem dX1_taken_15 : decode cX1_taken 15 = .ok (.getfield 20, 3) := by decide +kernel
theorem dX1_taken_18 : decode cX1_taken 18 = .ok (.iload_n 2, 1) := by decide +kernel
theorem dX1_taken_19 : decode cX1_taken 19 = .ok (.aaload, 1) := by decide +kernel
theorem dX1_taken_20 : decode cX1_taken 20 = .ok (.invokevirtual 98, 3) := by decide +kernel
theorem dX1_taken_23 : decode cX1_taken 23 = .ok (.ior, 1) := by decide +kernel
theorem dX1_taken_24 : decode cX1_taken 24 = .ok (.istore_n 1, 1) := by decide +kernel
theorem dX1_taken_25 : decode cX1_taken 25 = .ok (.iinc 2 1, 3) := by decide +kernel
theorem dX1_taken_28 : decode cX1_taken 28 = .ok (.goto (-24), 3) := by decide +kernel
theorem dX1_taken_31 : decode cX1_taken 31 = .ok (.iload_n 1, 1) := by decide +kernel
theorem dX1_taken_32 : decode cX1_taken 32 = .ok (.ireturn, 1) := by decide +kernel
theorem dX1_takenByFriends_0 : decode cX1_takenByFriends 0 = .ok (.iconst 0, 1) := by decide +kernel
theorem dX1_takenByFriends_1 : decode cX1_takenByFriends 1 = .ok (.istore_n 1, 1) := by decide +kernel
theorem dX1_takenByFriends_2 : decode cX1_takenByFriends 2 = .ok (.iconst 0, 1) := by decide +kernel
theorem dX1_takenByFriends_3 : decode cX1_takenByFriends 3 = .ok (.istore_n 2, 1) := by decide +kernel
theorem dX1_takenByFriends_4 : decode cX1_takenByFriends 4 = .ok (.iload_n 2, 1) := by decide +kernel
theorem dX1_takenByFriends_5 : decode cX1_takenByFriends 5 = .ok (.aload_n 0, 1) := by decide +kernel
theorem dX1_takenByFriends_6 : decode cX1_takenByFriends 6 = .ok (.getfield 50, 3) := by decide +kernel
theorem dX1_takenByFriends_9 : decode cX1_takenByFriends 9 = .ok (.if_icmp .ge 35, 3) := by decide +kernel
theorem dX1_takenByFriends_12 : decode cX1_takenByFriends 12 = .ok (.aload_n 0, 1) := by decide +kernel
theorem dX1_takenByFriends_13 : decode cX1_takenByFriends 13 = .ok (.getfield 20, 3) := by decide +kernel
theorem dX1_takenByFriends_16 : decode cX1_takenByFriends 16 = .ok (.iload_n 2, 1) := by decide +kernel
theorem dX1_takenByFriends_17 : decode cX1_takenByFriends 17 = .ok (.aaload, 1) := by decide +kernel
theorem dX1_takenByFriends_18 : decode cX1_takenByFriends 18 = .ok (.iconst 2, 1) := by decide +kernel
theorem dX1_takenByFriends_19 : decode cX1_takenByFriends 19 = .ok (.invokevirtual 91, 3) := by decide +kernel
theorem dX1_takenByFriends_22 : decode cX1_takenByFriends 22 = .ok (.ifCond .eq 16, 3) := by decide +kernel
theorem dX1_takenByFriends_25 : decode cX1_takenByFriends 25 = .ok (.iload_n 1, 1) := by decide +kernel
theorem dX1_takenByFriends_26 : decode cX1_takenByFriends 26 = .ok (.aload_n 0, 1) := by decide +kernel
theorem dX1_takenByFriends_27 : decode cX1_takenByFriends 27 = .ok (.aload_n 0, 1) := by decide +kernel
theorem dX1_takenByFriends_28 : decode cX1_takenByFriends 28 = .ok (.getfield 20, 3) := by decide +kernel
theorem dX1_takenByFriends_31 : decode cX1_takenByFriends 31 = .ok (.iload_n 2, 1) := by decide +kernel
theorem dX1_takenByFriends_32 : decode cX1_takenByFriends 32 = .ok (.aaload, 1) := by decide +kernel
theorem dX1_takenByFriends_33 : decode cX1_takenByFriends 33 = .ok (.invokevirtual 98, 3) := by decide +kernel
theorem dX1_takenByFriends_36 : decode cX1_takenByFriends 36 = .ok (.ior, 1) := by decide +kernel
theorem dX1_takenByFriends_37 : decode cX1_takenByFriends 37 = .ok (.istore_n 1, 1) := by decide +kernel
theorem dX1_takenByFriends_38 : decode cX1_takenByFriends 38 = .ok (.iinc 2 1, 3) := by decide +kernel
theorem dX1_takenByFriends_41 : decode cX1_takenByFriends 41 = .ok (.goto (-37), 3) := by decide +kernel
theorem dX1_takenByFriends_44 : decode cX1_takenByFriends 44 = .ok (.iload_n 1, 1) := by decide +kernel
theorem dX1_takenByFriends_45 : decode cX1_takenByFriends 45 = .ok (.ireturn, 1) := by decide +kernel
theorem dX1_seatedCount_0 : decode cX1_seatedCount 0 = .ok (.aload_n 0, 1) := by decide +kernel
theorem dX1_seatedCount_1 : decode cX1_seatedCount 1 = .ok (.getfield 50, 3) := by decide +kernel
theorem dX1_seatedCount_4 : decode cX1_seatedCount 4 = .ok (.aload_n 0, 1) := by decide +kernel
theorem dX1_seatedCount_5 : decode cX1_seatedCount 5 = .ok (.invokevirtual 102, 3) := by decide +kernel
theorem dX1_seatedCount_8 : decode cX1_seatedCount 8 = .ok (.invokestatic 105, 3) := by decide +kernel
theorem dX1_seatedCount_11 : decode cX1_seatedCount 11 = .ok (.isub, 1) := by decide +kernel
theorem dX1_seatedCount_12 : decode cX1_seatedCount 12 = .ok (.ireturn, 1) := by decide +kernel
theorem dX1_standing_0 : decode cX1_standing 0 = .ok (.iconst 0, 1) := by decide +kernel
theorem dX1_standing_1 : decode cX1_standing 1 = .ok (.istore_n 1, 1) := by decide +kernel
theorem dX1_standing_2 : decode cX1_standing 2 = .ok (.iconst 0, 1) := by decide +kernel
theorem dX1_standing_3 : decode cX1_standing 3 = .ok (.istore_n 2, 1) := by decide +kernel
theorem dX1_standing_4 : decode cX1_standing 4 = .ok (.iload_n 2, 1) := by decide +kernel
theorem dX1_standing_5 : decode cX1_standing 5 = .ok (.aload_n 0, 1) := by decide +kernel
theorem dX1_standing_6 : decode cX1_standing 6 = .ok (.getfield 50, 3) := by decide +kernel
theorem dX1_standing_9 : decode cX1_standing 9 = .ok (.if_icmp .ge 27, 3) := by decide +kernel
theorem dX1_standing_12 : decode cX1_standing 12 = .ok (.aload_n 0, 1) := by decide +kernel
theorem dX1_standing_13 : decode cX1_standing 13 = .ok (.getfield 20, 3) := by decide +kernel
theorem dX1_standing_16 : decode cX1_standing 16 = .ok (.iload_n 2, 1) := by decide +kernel
theorem dX1_standing_17 : decode cX1_standing 17 = .ok (.aaload, 1) := by decide +kernel
theorem dX1_standing_18 : decode cX1_standing 18 = .ok (.invokevirtual 87, 3) := by decide +kernel
theorem dX1_standing_21 : decode cX1_standing 21 = .ok (.ifCond .ne 9, 3) := by decide +kernel
theorem dX1_standing_24 : decode cX1_standing 24 = .ok (.iload_n 1, 1) := by decide +kernel
theorem dX1_standing_25 : decode cX1_standing 25 = .ok (.iconst 1, 1) := by decide +kernel
theorem dX1_standing_26 : decode cX1_standing 26 = .ok (.iload_n 2, 1) := by decide +kernel
theorem dX1_standing_27 : decode cX1_standing 27 = .ok (.ishl, 1) := by decide +kernel
theorem dX1_standing_28 : decode cX1_standing 28 = .ok (.ior, 1) := by decide +kernel
theorem dX1_standing_29 : decode cX1_standing 29 = .ok (.istore_n 1, 1) := by decide +kernel
theorem dX1_standing_30 : decode cX1_standing 30 = .ok (.iinc 2 1, 3) := by decide +kernel
theorem dX1_standing_33 : decode cX1_standing 33 = .ok (.goto (-29), 3) := by decide +kernel
theorem dX1_standing_36 : decode cX1_standing 36 = .ok (.iload_n 1, 1) := by decide +kernel
theorem dX1_standing_37 : decode cX1_standing 37 = .ok (.ireturn, 1) := by decide +kernel
theorem dX1_placesFor_0 : decode cX1_placesFor 0 = .ok (.aload_n 1, 1) := by decide +kernel
theorem dX1_placesFor_1 : decode cX1_placesFor 1 = .ok (.invokevirtual 87, 3) := by decide +kernel
theorem dX1_placesFor_4 : decode cX1_placesFor 4 = .ok (.ifCond .eq 5, 3) := by decide +kernel
theorem dX1_placesFor_7 : decode cX1_placesFor 7 = .ok (.iconst 0, 1) := by decide +kernel
theorem dX1_placesFor_8 : decode cX1_placesFor 8 = .ok (.ireturn, 1) := by decide +kernel
theorem dX1_placesFor_9 : decode cX1_placesFor 9 = .ok (.aload_n 0, 1) := by decide +kernel
theorem dX1_placesFor_10 : decode cX1_placesFor 10 = .ok (.aload_n 1, 1) := by decide +kernel
theorem dX1_placesFor_11 : decode cX1_placesFor 11 = .ok (.getfield 111, 3) := by decide +kernel
theorem dX1_placesFor_14 : decode cX1_placesFor 14 = .ok (.aload_n 0, 1) := by decide +kernel
theorem dX1_placesFor_15 : decode cX1_placesFor 15 = .ok (.invokevirtual 114, 3) := by decide +kernel
theorem dX1_placesFor_18 : decode cX1_placesFor 18 = .ok (.aload_n 1, 1) := by decide +kernel
theorem dX1_placesFor_19 : decode cX1_placesFor 19 = .ok (.iconst 2, 1) := by decide +kernel
theorem dX1_placesFor_20 : decode cX1_placesFor 20 = .ok (.invokevirtual 91, 3) := by decide +kernel
theorem dX1_placesFor_23 : decode cX1_placesFor 23 = .ok (.ifCond .eq 10, 3) := by decide +kernel
theorem dX1_placesFor_26 : decode cX1_placesFor 26 = .ok (.aload_n 0, 1) := by decide +kernel
theorem dX1_placesFor_27 : decode cX1_placesFor 27 = .ok (.invokevirtual 117, 3) := by decide +kernel
theorem dX1_placesFor_30 : decode cX1_placesFor 30 = .ok (.goto 4, 3) := by decide +kernel
theorem dX1_placesFor_33 : decode cX1_placesFor 33 = .ok (.iconst 0, 1) := by decide +kernel
theorem dX1_placesFor_34 : decode cX1_placesFor 34 = .ok (.invokevirtual 120, 3) := by decide +kernel
theorem dX1_placesFor_37 : decode cX1_placesFor 37 = .ok (.ireturn, 1) := by decide +kernel
theorem dX1_placesForKind_0 : decode cX1_placesForKind 0 = .ok (.iload_n 1, 1) := by decide +kernel
theorem dX1_placesForKind_1 : decode cX1_placesForKind 1 = .ok (.iconst 1, 1) := by decide +kernel
theorem dX1_placesForKind_2 : decode cX1_placesForKind 2 = .ok (.if_icmp .eq 8, 3) := by decide +kernel
theorem dX1_placesForKind_5 : decode cX1_placesForKind 5 = .ok (.iload_n 1, 1) := by decide +kernel
theorem dX1_placesForKind_6 : decode cX1_placesForKind 6 = .ok (.iconst 3, 1) := by decide +kernel
theorem dX1_placesForKind_7 : decode cX1_placesForKind 7 = .ok (.if_icmp .ne 22, 3) := by decide +kernel
theorem dX1_placesForKind_10 : decode cX1_placesForKind 10 = .ok (.aload_n 0, 1) := by decide +kernel
theorem dX1_placesForKind_11 : decode cX1_placesForKind 11 = .ok (.getfield 12, 3) := by decide +kernel
theorem dX1_placesForKind_14 : decode cX1_placesForKind 14 = .ok (.iload_n 2, 1) := by decide +kernel
theorem dX1_placesForKind_15 : decode cX1_placesForKind 15 = .ok (.iload_n 1, 1) := by decide +kernel
theorem dX1_placesForKind_16 : decode cX1_placesForKind 16 = .ok (.iconst 3, 1) := by decide +kernel
theorem dX1_placesForKind_17 : decode cX1_placesForKind 17 = .ok (.if_icmp .ne 7, 3) := by decide +kernel
theorem dX1_placesForKind_20 : decode cX1_placesForKind 20 = .ok (.iconst 1, 1) := by decide +kernel
theorem dX1_placesForKind_21 : decode cX1_placesForKind 21 = .ok (.goto 4, 3) := by decide +kernel
theorem dX1_placesForKind_24 : decode cX1_placesForKind 24 = .ok (.iconst 0, 1) := by decide +kernel
theorem dX1_placesForKind_25 : decode cX1_placesForKind 25 = .ok (.invokevirtual 124, 3) := by decide +kernel
theorem dX1_placesForKind_28 : decode cX1_placesForKind 28 = .ok (.ireturn, 1) := by decide +kernel
theorem dX1_placesForKind_29 : decode cX1_placesForKind 29 = .ok (.aload_n 0, 1) := by decide +kernel
theorem dX1_placesForKind_30 : decode cX1_placesForKind 30 = .ok (.getfield 12, 3) := by decide +kernel
theorem dX1_placesForKind_33 : decode cX1_placesForKind 33 = .ok (.getfield 128, 3) := by decide +kernel
theorem dX1_placesForKind_36 : decode cX1_placesForKind 36 = .ok (.iload_n 2, 1) := by decide +kernel
theorem dX1_placesForKind_37 : decode cX1_placesForKind 37 = .ok (.iconst (-1), 1) := by decide +kernel
theorem dX1_placesForKind_38 : decode cX1_placesForKind 38 = .ok (.ixor, 1) := by decide +kernel
theorem dX1_placesForKind_39 : decode cX1_placesForKind 39 = .ok (.iand, 1) := by decide +kernel
theorem dX1_placesForKind_40 : decode cX1_placesForKind 40 = .ok (.istore 4, 2) := by decide +kernel
theorem dX1_placesForKind_42 : decode cX1_placesForKind 42 = .ok (.aload_n 0, 1) := by decide +kernel
theorem dX1_placesForKind_43 : decode cX1_placesForKind 43 = .ok (.getfield 12, 3) := by decide +kernel
theorem dX1_placesForKind_46 : decode cX1_placesForKind 46 = .ok (.iload_n 2, 1) := by decide +kernel
theorem dX1_placesForKind_47 : decode cX1_placesForKind 47 = .ok (.aload_n 0, 1) := by decide +kernel
theorem dX1_placesForKind_48 : decode cX1_placesForKind 48 = .ok (.getfield 12, 3) := by decide +kernel
theorem dX1_placesForKind_51 : decode cX1_placesForKind 51 = .ok (.getfield 131, 3) := by decide +kernel
theorem dX1_placesForKind_54 : decode cX1_placesForKind 54 = .ok (.invokevirtual 134, 3) := by decide +kernel
theorem dX1_placesForKind_57 : decode cX1_placesForKind 57 = .ok (.aload_n 0, 1) := by decide +kernel
theorem dX1_placesForKind_58 : decode cX1_placesForKind 58 = .ok (.getfield 12, 3) := by decide +kernel
theorem dX1_placesForKind_61 : decode cX1_placesForKind 61 = .ok (.iload_n 2, 1) := by decide +kernel
theorem dX1_placesForKind_62 : decode cX1_placesForKind 62 = .ok (.aload_n 0, 1) := by decide +kernel
theorem dX1_placesForKind_63 : decode cX1_placesForKind 63 = .ok (.getfield 12, 3) := by decide +kernel
theorem dX1_placesForKind_66 : decode cX1_placesForKind 66 = .ok (.getfield 131, 3) := by decide +kernel
theorem dX1_placesForKind_69 : decode cX1_placesForKind 69 = .ok (.invokevirtual 138, 3) := by decide +kernel
theorem dX1_placesForKind_72 : decode cX1_placesForKind 72 = .ok (.ior, 1) := by decide +kernel
theorem dX1_placesForKind_73 : decode cX1_placesForKind 73 = .ok (.istore 5, 2) := by decide +kernel
theorem dX1_placesForKind_75 : decode cX1_placesForKind 75 = .ok (.iload_n 1, 1) := by decide +kernel
theorem dX1_placesForKind_76 : decode cX1_placesForKind 76 = .ok (.iconst 5, 1) := by decide +kernel
theorem dX1_placesForKind_77 : decode cX1_placesForKind 77 = .ok (.if_icmp .ne 11, 3) := by decide +kernel
theorem dX1_placesForKind_80 : decode cX1_placesForKind 80 = .ok (.iload 4, 2) := by decide +kernel
theorem dX1_placesForKind_82 : decode cX1_placesForKind 82 = .ok (.iload 5, 2) := by decide +kernel
theorem dX1_placesForKind_84 : decode cX1_placesForKind 84 = .ok (.iconst (-1), 1) := by decide +kernel
theorem dX1_placesForKind_85 : decode cX1_placesForKind 85 = .ok (.ixor, 1) := by decide +kernel
theorem dX1_placesForKind_86 : decode cX1_placesForKind 86 = .ok (.iand, 1) := by decide +kernel
theorem dX1_placesForKind_87 : decode cX1_placesForKind 87 = .ok (.ireturn, 1) := by decide +kernel
theorem dX1_placesForKind_88 : decode cX1_placesForKind 88 = .ok (.aload_n 0, 1) := by decide +kernel
theorem dX1_placesForKind_89 : decode cX1_placesForKind 89 = .ok (.getfield 12, 3) := by decide +kernel
theorem dX1_placesForKind_92 : decode cX1_placesForKind 92 = .ok (.iload_n 2, 1) := by decide +kernel
theorem dX1_placesForKind_93 : decode cX1_placesForKind 93 = .ok (.invokevirtual 141, 3) := by decide +kernel
theorem dX1_placesForKind_96 : decode cX1_placesForKind 96 = .ok (.istore 6, 2) := by decide +kernel
theorem dX1_placesForKind_98 : decode cX1_placesForKind 98 = .ok (.iload_n 1, 1) := by decide +kernel
theorem dX1_placesForKind_99 : decode cX1_placesForKind 99 = .ok (.iconst 2, 1) := by decide +kernel
theorem dX1_placesForKind_100 : decode cX1_placesForKind 100 = .ok (.if_icmp .eq 8, 3) := by decide +kernel
theorem dX1_placesForKind_103 : decode cX1_placesForKind 103 = .ok (.iload_n 1, 1) := by decide +kernel
theorem dX1_placesForKind_104 : decode cX1_placesForKind 104 = .ok (.iconst 4, 1) := by decide +kernel
theorem dX1_placesForKind_105 : decode cX1_placesForKind 105 = .ok (.if_icmp .ne 30, 3) := by decide +kernel
theorem dX1_placesForKind_108 : decode cX1_placesForKind 108 = .ok (.iload 6, 2) := by decide +kernel
theorem dX1_placesForKind_110 : decode cX1_placesForKind 110 = .ok (.iload 4, 2) := by decide +kernel
theorem dX1_placesForKind_112 : decode cX1_placesForKind 112 = .ok (.aload_n 0, 1) := by decide +kernel
theorem dX1_placesForKind_113 : decode cX1_placesForKind 113 = .ok (.getfield 12, 3) := by decide +kernel
theorem dX1_placesForKind_116 : decode cX1_placesForKind 116 = .ok (.iload_n 3, 1) := by decide +kernel
theorem dX1_placesForKind_117 : decode cX1_placesForKind 117 = .ok (.iconst 0, 1) := by decide +kernel
theorem dX1_placesForKind_118 : decode cX1_placesForKind 118 = .ok (.invokevirtual 134, 3) := by decide +kernel
theorem dX1_placesForKind_121 : decode cX1_placesForKind 121 = .ok (.aload_n 0, 1) := by decide +kernel
theorem dX1_placesForKind_122 : decode cX1_placesForKind 122 = .ok (.getfield 12, 3) := by decide +kernel
theorem dX1_placesForKind_125 : decode cX1_placesForKind 125 = .ok (.iload_n 3, 1) := by decide +kernel
theorem dX1_placesForKind_126 : decode cX1_placesForKind 126 = .ok (.iconst 0, 1) := by decide +kernel
theorem dX1_placesForKind_127 : decode cX1_placesForKind 127 = .ok (.invokevirtual 138, 3) := by decide +kernel
theorem dX1_placesForKind_130 : decode cX1_placesForKind 130 = .ok (.ior, 1) := by decide +kernel
theorem dX1_placesForKind_131 : decode cX1_placesForKind 131 = .ok (.iand, 1) := by decide +kernel
theorem dX1_placesForKind_132 : decode cX1_placesForKind 132 = .ok (.ior, 1) := by decide +kernel
theorem dX1_placesForKind_133 : decode cX1_placesForKind 133 = .ok (.istore 6, 2) := by decide +kernel
theorem dX1_placesForKind_135 : decode cX1_placesForKind 135 = .ok (.iload_n 1, 1) := by decide +kernel
theorem dX1_placesForKind_136 : decode cX1_placesForKind 136 = .ok (.iconst 4, 1) := by decide +kernel
theorem dX1_placesForKind_137 : decode cX1_placesForKind 137 = .ok (.if_icmp .ne 14, 3) := by decide +kernel
theorem dX1_placesForKind_140 : decode cX1_placesForKind 140 = .ok (.iload 6, 2) := by decide +kernel
theorem dX1_placesForKind_142 : decode cX1_placesForKind 142 = .ok (.iload 4, 2) := by decide +kernel
theorem dX1_placesForKind_144 : decode cX1_placesForKind 144 = .ok (.iload 5, 2) := by decide +kernel
theorem dX1_placesForKind_146 : decode cX1_placesForKind 146 = .ok (.iand, 1) := by decide +kernel
theorem dX1_placesForKind_147 : decode cX1_placesForKind 147 = .ok (.ior, 1) := by decide +kernel
theorem dX1_placesForKind_148 : decode cX1_placesForKind 148 = .ok (.goto 5, 3) := by decide +kernel
theorem dX1_placesForKind_151 : decode cX1_placesForKind 151 = .ok (.iload 6, 2) := by decide +kernel
theorem dX1_placesForKind_153 : decode cX1_placesForKind 153 = .ok (.ireturn, 1) := by decide +kernel
theorem dX1_isShut_0 : decode cX1_isShut 0 = .ok (.aload_n 0, 1) := by decide +kernel
theorem dX1_isShut_1 : decode cX1_isShut 1 = .ok (.invokevirtual 114, 3) := by decide +kernel
theorem dX1_isShut_4 : decode cX1_isShut 4 = .ok (.istore_n 1, 1) := by decide +kernel
theorem dX1_isShut_5 : decode cX1_isShut 5 = .ok (.aload_n 0, 1) := by decide +kernel
theorem dX1_isShut_6 : decode cX1_isShut 6 = .ok (.invokevirtual 117, 3) := by decide +kernel
theorem dX1_isShut_9 : decode cX1_isShut 9 = .ok (.istore_n 2, 1) := by decide +kernel
theorem dX1_isShut_10 : decode cX1_isShut 10 = .ok (.iconst 0, 1) := by decide +kernel
theorem dX1_isShut_11 : decode cX1_isShut 11 = .ok (.istore_n 3, 1) := by decide +kernel
theorem dX1_isShut_12 : decode cX1_isShut 12 = .ok (.iload_n 3, 1) := by decide +kernel
theorem dX1_isShut_13 : decode cX1_isShut 13 = .ok (.aload_n 0, 1) := by decide +kernel
theorem dX1_isShut_14 : decode cX1_isShut 14 = .ok (.getfield 50, 3) := by decide +kernel
theorem dX1_isShut_17 : decode cX1_isShut 17 = .ok (.if_icmp .ge 41, 3) := by decide +kernel
theorem dX1_isShut_20 : decode cX1_isShut 20 = .ok (.aload_n 0, 1) := by decide +kernel
theorem dX1_isShut_21 : decode cX1_isShut 21 = .ok (.getfield 20, 3) := by decide +kernel
theorem dX1_isShut_24 : decode cX1_isShut 24 = .ok (.iload_n 3, 1) := by decide +kernel
theorem dX1_isShut_25 : decode cX1_isShut 25 = .ok (.aaload, 1) := by decide +kernel
theorem dX1_isShut_26 : decode cX1_isShut 26 = .ok (.invokevirtual 87, 3) := by decide +kernel
theorem dX1_isShut_29 : decode cX1_isShut 29 = .ok (.ifCond .ne 23, 3) := by decide +kernel
theorem dX1_isShut_32 : decode cX1_isShut 32 = .ok (.aload_n 0, 1) := by decide +kernel
theorem dX1_isShut_33 : decode cX1_isShut 33 = .ok (.aload_n 0, 1) := by decide +kernel
theorem dX1_isShut_34 : decode cX1_isShut 34 = .ok (.getfield 20, 3) := by decide +kernel
theorem dX1_isShut_37 : decode cX1_isShut 37 = .ok (.iload_n 3, 1) := by decide +kernel
theorem dX1_isShut_38 : decode cX1_isShut 38 = .ok (.aaload, 1) := by decide +kernel
theorem dX1_isShut_39 : decode cX1_isShut 39 = .ok (.getfield 111, 3) := by decide +kernel
theorem dX1_isShut_42 : decode cX1_isShut 42 = .ok (.iload_n 1, 1) := by decide +kernel
theorem dX1_isShut_43 : decode cX1_isShut 43 = .ok (.iload_n 2, 1) := by decide +kernel
theorem dX1_isShut_44 : decode cX1_isShut 44 = .ok (.invokevirtual 120, 3) := by decide +kernel
theorem dX1_isShut_47 : decode cX1_isShut 47 = .ok (.ifCond .eq 5, 3) := by decide +kernel
theorem dX1_isShut_50 : decode cX1_isShut 50 = .ok (.iconst 0, 1) := by decide +kernel
theorem dX1_isShut_51 : decode cX1_isShut 51 = .ok (.ireturn, 1) := by decide +kernel
theorem dX1_isShut_52 : decode cX1_isShut 52 = .ok (.iinc 3 1, 3) := by decide +kernel
theorem dX1_isShut_55 : decode cX1_isShut 55 = .ok (.goto (-43), 3) := by decide +kernel
theorem dX1_isShut_58 : decode cX1_isShut 58 = .ok (.iconst 1, 1) := by decide +kernel
theorem dX1_isShut_59 : decode cX1_isShut 59 = .ok (.ireturn, 1) := by decide +kernel
theorem dX1_seat_0 : decode cX1_seat 0 = .ok (.aload_n 1, 1) := by decide +kernel
theorem dX1_seat_1 : decode cX1_seat 1 = .ok (.aload_n 0, 1) := by decide +kernel
theorem dX1_seat_2 : decode cX1_seat 2 = .ok (.iload_n 2, 1) := by decide +kernel
theorem dX1_seat_3 : decode cX1_seat 3 = .ok (.aload_n 1, 1) := by decide +kernel
theorem dX1_seat_4 : decode cX1_seat 4 = .ok (.getfield 144, 3) := by decide +kernel
theorem dX1_seat_7 : decode cX1_seat 7 = .ok (.invokevirtual 147, 3) := by decide +kernel
theorem dX1_seat_10 : decode cX1_seat 10 = .ok (.invokevirtual 150, 3) := by decide +kernel
theorem dX1_seat_13 : decode cX1_seat 13 = .ok (.istore_n 3, 1) := by decide +kernel
theorem dX1_seat_14 : decode cX1_seat 14 = .ok (.aload_n 1, 1) := by decide +kernel
theorem dX1_seat_15 : decode cX1_seat 15 = .ok (.iload_n 2, 1) := by decide +kernel
theorem dX1_seat_16 : decode cX1_seat 16 = .ok (.putfield 79, 3) := by decide +kernel
theorem dX1_seat_19 : decode cX1_seat 19 = .ok (.aload_n 1, 1) := by decide +kernel
theorem dX1_seat_20 : decode cX1_seat 20 = .ok (.dup, 1) := by decide +kernel
theorem dX1_seat_21 : decode cX1_seat 21 = .ok (.getfield 144, 3) := by decide +kernel
theorem dX1_seat_24 : decode cX1_seat 24 = .ok (.iconst 1, 1) := by decide +kernel
theorem dX1_seat_25 : decode cX1_seat 25 = .ok (.iadd, 1) := by decide +kernel
theorem dX1_seat_26 : decode cX1_seat 26 = .ok (.putfield 144, 3) := by decide +kernel
theorem dX1_seat_29 : decode cX1_seat 29 = .ok (.aload_n 1, 1) := by decide +kernel
theorem dX1_seat_30 : decode cX1_seat 30 = .ok (.aload_n 1, 1) := by decide +kernel
theorem dX1_seat_31 : decode cX1_seat 31 = .ok (.getfield 153, 3) := by decide +kernel
theorem dX1_seat_34 : decode cX1_seat 34 = .ok (.iload_n 3, 1) := by decide +kernel
theorem dX1_seat_35 : decode cX1_seat 35 = .ok (.isub, 1) := by decide +kernel
theorem dX1_seat_36 : decode cX1_seat 36 = .ok (.sipush (-9999), 3) := by decide +kernel
theorem dX1_seat_39 : decode cX1_seat 39 = .ok (.sipush 9999, 3) := by decide +kernel
theorem dX1_seat_42 : decode cX1_seat 42 = .ok (.invokestatic 156, 3) := by decide +kernel
theorem dX1_seat_45 : decode cX1_seat 45 = .ok (.putfield 153, 3) := by decide +kernel
theorem dX1_seat_48 : decode cX1_seat 48 = .ok (.aload_n 0, 1) := by decide +kernel
theorem dX1_seat_49 : decode cX1_seat 49 = .ok (.dup, 1) := by decide +kernel
theorem dX1_seat_50 : decode cX1_seat 50 = .ok (.getfield 62, 3) := by decide +kernel
theorem dX1_seat_53 : decode cX1_seat 53 = .ok (.iload_n 3, 1) := by decide +kernel
theorem dX1_seat_54 : decode cX1_seat 54 = .ok (.iadd, 1) := by decide +kernel
theorem dX1_seat_55 : decode cX1_seat 55 = .ok (.putfield 62, 3) := by decide +kernel
theorem dX1_seat_58 : decode cX1_seat 58 = .ok (.iload_n 3, 1) := by decide +kernel
theorem dX1_seat_59 : decode cX1_seat 59 = .ok (.ireturn, 1) := by decide +kernel
theorem dX1_fare_0 : decode cX1_fare 0 = .ok (.aload_n 0, 1) := by decide +kernel
theorem dX1_fare_1 : decode cX1_fare 1 = .ok (.getfield 28, 3) := by decide +kernel
theorem dX1_fare_4 : decode cX1_fare 4 = .ok (.iconst 0, 1) := by decide +kernel
theorem dX1_fare_5 : decode cX1_fare 5 = .ok (.iaload, 1) := by decide +kernel
theorem dX1_fare_6 : decode cX1_fare 6 = .ok (.istore_n 3, 1) := by decide +kernel
theorem dX1_fare_7 : decode cX1_fare 7 = .ok (.aload_n 0, 1) := by decide +kernel
theorem dX1_fare_8 : decode cX1_fare 8 = .ok (.getfield 24, 3) := by decide +kernel
theorem dX1_fare_11 : decode cX1_fare 11 = .ok (.iload_n 1, 1) := by decide +kernel
theorem dX1_fare_12 : decode cX1_fare 12 = .ok (.iaload, 1) := by decide +kernel
theorem dX1_fare_13 : decode cX1_fare 13 = .ok (.istore 4, 2) := by decide +kernel
theorem dX1_fare_15 : decode cX1_fare 15 = .ok (.aload_n 0, 1) := by decide +kernel
theorem dX1_fare_16 : decode cX1_fare 16 = .ok (.iconst 0, 1) := by decide +kernel
theorem dX1_fare_17 : decode cX1_fare 17 = .ok (.invokevirtual 159, 3) := by decide +kernel
theorem dX1_fare_20 : decode cX1_fare 20 = .ok (.astore 5, 2) := by decide +kernel
theorem dX1_fare_22 : decode cX1_fare 22 = .ok (.aload 5, 2) := by decide +kernel
theorem dX1_fare_24 : decode cX1_fare 24 = .ok (.ifnonnull 10, 3) := by decide +kernel
theorem dX1_fare_27 : decode cX1_fare 27 = .ok (.iload_n 3, 1) := by decide +kernel
theorem dX1_fare_28 : decode cX1_fare 28 = .ok (.iload 4, 2) := by decide +kernel
theorem dX1_fare_30 : decode cX1_fare 30 = .ok (.iadd, 1) := by decide +kernel
theorem dX1_fare_31 : decode cX1_fare 31 = .ok (.goto 12, 3) := by decide +kernel
theorem dX1_fare_34 : decode cX1_fare 34 = .ok (.aload 5, 2) := by decide +kernel
theorem dX1_fare_36 : decode cX1_fare 36 = .ok (.iload_n 3, 1) := by decide +kernel
theorem dX1_fare_37 : decode cX1_fare 37 = .ok (.iload 4, 2) := by decide +kernel
theorem dX1_fare_39 : decode cX1_fare 39 = .ok (.iload_n 2, 1) := by decide +kernel
theorem dX1_fare_40 : decode cX1_fare 40 = .ok (.invokevirtual 163, 3) := by decide +kernel
theorem dX1_fare_43 : decode cX1_fare 43 = .ok (.sipush (-999), 3) := by decide +kernel
theorem dX1_fare_46 : decode cX1_fare 46 = .ok (.sipush 999, 3) := by decide +kernel
theorem dX1_fare_49 : decode cX1_fare 49 = .ok (.invokestatic 156, 3) := by decide +kernel
theorem dX1_fare_52 : decode cX1_fare 52 = .ok (.ireturn, 1) := by decide +kernel
theorem dX1_lawOf_0 : decode cX1_lawOf 0 = .ok (.aload_n 0, 1) := by decide +kernel
theorem dX1_lawOf_1 : decode cX1_lawOf 1 = .ok (.getfield 42, 3) := by decide +kernel
theorem dX1_lawOf_4 : decode cX1_lawOf 4 = .ok (.iload_n 1, 1) := by decide +kernel
theorem dX1_lawOf_5 : decode cX1_lawOf 5 = .ok (.iaload, 1) := by decide +kernel
theorem dX1_lawOf_6 : decode cX1_lawOf 6 = .ok (.istore_n 2, 1) := by decide +kernel
theorem dX1_lawOf_7 : decode cX1_lawOf 7 = .ok (.iload_n 2, 1) := by decide +kernel
theorem dX1_lawOf_8 : decode cX1_lawOf 8 = .ok (.ifCond .lt 20, 3) := by decide +kernel
theorem dX1_lawOf_11 : decode cX1_lawOf 11 = .ok (.iload_n 2, 1) := by decide +kernel
theorem dX1_lawOf_12 : decode cX1_lawOf 12 = .ok (.aload_n 0, 1) := by decide +kernel
theorem dX1_lawOf_13 : decode cX1_lawOf 13 = .ok (.getfield 68, 3) := by decide +kernel
theorem dX1_lawOf_16 : decode cX1_lawOf 16 = .ok (.if_icmp .ge 12, 3) := by decide +kernel
theorem dX1_lawOf_19 : decode cX1_lawOf 19 = .ok (.aload_n 0, 1) := by decide +kernel
theorem dX1_lawOf_20 : decode cX1_lawOf 20 = .ok (.getfield 37, 3) := by decide +kernel
theorem dX1_lawOf_23 : decode cX1_lawOf 23 = .ok (.iload_n 2, 1) := by decide +kernel
theorem dX1_lawOf_24 : decode cX1_lawOf 24 = .ok (.aaload, 1) := by decide +kernel
theorem dX1_lawOf_25 : decode cX1_lawOf 25 = .ok (.goto 4, 3) := by decide +kernel
theorem dX1_lawOf_28 : decode cX1_lawOf 28 = .ok (.aconst_null, 1) := by decide +kernel
theorem dX1_lawOf_29 : decode cX1_lawOf 29 = .ok (.areturn, 1) := by decide +kernel
theorem dX1_enact_0 : decode cX1_enact 0 = .ok (.aload_n 0, 1) := by decide +kernel
theorem dX1_enact_1 : decode cX1_enact 1 = .ok (.getfield 68, 3) := by decide +kernel
theorem dX1_enact_4 : decode cX1_enact 4 = .ok (.bipush 14, 2) := by decide +kernel
theorem dX1_enact_6 : decode cX1_enact 6 = .ok (.if_icmp .lt 6, 3) := by decide +kernel
theorem dX1_enact_9 : decode cX1_enact 9 = .ok (.ldc 82, 2) := by decide +kernel
theorem dX1_enact_11 : decode cX1_enact 11 = .ok (.ireturn, 1) := by decide +kernel
theorem dX1_enact_12 : decode cX1_enact 12 = .ok (.aload_n 0, 1) := by decide +kernel
theorem dX1_enact_13 : decode cX1_enact 13 = .ok (.getfield 37, 3) := by decide +kernel
theorem dX1_enact_16 : decode cX1_enact 16 = .ok (.aload_n 0, 1) := by decide +kernel
theorem dX1_enact_17 : decode cX1_enact 17 = .ok (.getfield 68, 3) := by decide +kernel
theorem dX1_enact_20 : decode cX1_enact 20 = .ok (.aload_n 1, 1) := by decide +kernel
theorem dX1_enact_21 : decode cX1_enact 21 = .ok (.aastore, 1) := by decide +kernel
theorem dX1_enact_22 : decode cX1_enact 22 = .ok (.aload_n 0, 1) := by decide +kernel
theorem dX1_enact_23 : decode cX1_enact 23 = .ok (.getfield 42, 3) := by decide +kernel
theorem dX1_enact_26 : decode cX1_enact 26 = .ok (.aload_n 1, 1) := by decide +kernel
theorem dX1_enact_27 : decode cX1_enact 27 = .ok (.getfield 166, 3) := by decide +kernel
theorem dX1_enact_30 : decode cX1_enact 30 = .ok (.aload_n 0, 1) := by decide +kernel
theorem dX1_enact_31 : decode cX1_enact 31 = .ok (.getfield 68, 3) := by decide +kernel
theorem dX1_enact_34 : decode cX1_enact 34 = .ok (.iastore, 1) := by decide +kernel
theorem dX1_enact_35 : decode cX1_enact 35 = .ok (.aload_n 0, 1) := by decide +kernel
theorem dX1_enact_36 : decode cX1_enact 36 = .ok (.dup, 1) := by decide +kernel
theorem dX1_enact_37 : decode cX1_enact 37 = .ok (.getfield 68, 3) := by decide +kernel
theorem dX1_enact_40 : decode cX1_enact 40 = .ok (.iconst 1, 1) := by decide +kernel
theorem dX1_enact_41 : decode cX1_enact 41 = .ok (.iadd, 1) := by decide +kernel
theorem dX1_enact_42 : decode cX1_enact 42 = .ok (.putfield 68, 3) := by decide +kernel
theorem dX1_enact_45 : decode cX1_enact 45 = .ok (.aload_n 0, 1) := by decide +kernel
theorem dX1_enact_46 : decode cX1_enact 46 = .ok (.getfield 68, 3) := by decide +kernel
theorem dX1_enact_49 : decode cX1_enact 49 = .ok (.iconst 1, 1) := by decide +kernel
theorem dX1_enact_50 : decode cX1_enact 50 = .ok (.isub, 1) := by decide +kernel
theorem dX1_enact_51 : decode cX1_enact 51 = .ok (.ireturn, 1) := by decide +kernel
theorem dX1_draw_0 : decode cX1_draw 0 = .ok (.aload_n 0, 1) := by decide +kernel
theorem dX1_draw_1 : decode cX1_draw 1 = .ok (.aload_n 0, 1) := by decide +kernel
theorem dX1_draw_2 : decode cX1_draw 2 = .ok (.getfield 31, 3) := by decide +kernel
theorem dX1_draw_5 : decode cX1_draw 5 = .ok (.ldc 169, 2) := by decide +kernel
theorem dX1_draw_7 : decode cX1_draw 7 = .ok (.imul, 1) := by decide +kernel
theorem dX1_draw_8 : decode cX1_draw 8 = .ok (.sipush 12345, 3) := by decide +kernel
theorem dX1_draw_11 : decode cX1_draw 11 = .ok (.iadd, 1) := by decide +kernel
theorem dX1_draw_12 : decode cX1_draw 12 = .ok (.putfield 31, 3) := by decide +kernel
theorem dX1_draw_15 : decode cX1_draw 15 = .ok (.aload_n 0, 1) := by decide +kernel
theorem dX1_draw_16 : decode cX1_draw 16 = .ok (.getfield 31, 3) := by decide +kernel
theorem dX1_draw_19 : decode cX1_draw 19 = .ok (.bipush 8, 2) := by decide +kernel
theorem dX1_draw_21 : decode cX1_draw 21 = .ok (.iushr, 1) := by decide +kernel
theorem dX1_draw_22 : decode cX1_draw 22 = .ok (.ireturn, 1) := by decide +kernel
theorem dX1_pass_0 : decode cX1_pass 0 = .ok (.iconst 0, 1) := by decide +kernel
theorem dX1_pass_1 : decode cX1_pass 1 = .ok (.istore_n 2, 1) := by decide +kernel
theorem dX1_pass_2 : decode cX1_pass 2 = .ok (.iconst 0, 1) := by decide +kernel
theorem dX1_pass_3 : decode cX1_pass 3 = .ok (.istore_n 3, 1) := by decide +kernel
theorem dX1_pass_4 : decode cX1_pass 4 = .ok (.iload_n 3, 1) := by decide +kernel
theorem dX1_pass_5 : decode cX1_pass 5 = .ok (.iload_n 1, 1) := by decide +kernel
theorem dX1_pass_6 : decode cX1_pass 6 = .ok (.if_icmp .ge 19, 3) := by decide +kernel
theorem dX1_pass_9 : decode cX1_pass 9 = .ok (.aload_n 0, 1) := by decide +kernel
theorem dX1_pass_10 : decode cX1_pass 10 = .ok (.invokevirtual 170, 3) := by decide +kernel
theorem dX1_pass_13 : decode cX1_pass 13 = .ok (.ifCond .eq 6, 3) := by decide +kernel
theorem dX1_pass_16 : decode cX1_pass 16 = .ok (.iinc 2 1, 3) := by decide +kernel
theorem dX1_pass_19 : decode cX1_pass 19 = .ok (.iinc 3 1, 3) := by decide +kernel
theorem dX1_pass_22 : decode cX1_pass 22 = .ok (.goto (-18), 3) := by decide +kernel
theorem dX1_pass_25 : decode cX1_pass 25 = .ok (.iload_n 2, 1) := by decide +kernel
theorem dX1_pass_26 : decode cX1_pass 26 = .ok (.ireturn, 1) := by decide +kernel
theorem dX1_passOne_0 : decode cX1_passOne 0 = .ok (.aload_n 0, 1) := by decide +kernel
theorem dX1_passOne_1 : decode cX1_passOne 1 = .ok (.invokevirtual 173, 3) := by decide +kernel
theorem dX1_passOne_4 : decode cX1_passOne 4 = .ok (.bipush 100, 2) := by decide +kernel
theorem dX1_passOne_6 : decode cX1_passOne 6 = .ok (.irem, 1) := by decide +kernel
theorem dX1_passOne_7 : decode cX1_passOne 7 = .ok (.aload_n 0, 1) := by decide +kernel
theorem dX1_passOne_8 : decode cX1_passOne 8 = .ok (.getfield 28, 3) := by decide +kernel
theorem dX1_passOne_11 : decode cX1_passOne 11 = .ok (.iconst 2, 1) := by decide +kernel
theorem dX1_passOne_12 : decode cX1_passOne 12 = .ok (.iaload, 1) := by decide +kernel
theorem dX1_passOne_13 : decode cX1_passOne 13 = .ok (.if_icmp .ge 14, 3) := by decide +kernel
theorem dX1_passOne_16 : decode cX1_passOne 16 = .ok (.aload_n 0, 1) := by decide +kernel
theorem dX1_passOne_17 : decode cX1_passOne 17 = .ok (.invokevirtual 176, 3) := by decide +kernel
theorem dX1_passOne_20 : decode cX1_passOne 20 = .ok (.ifCond .eq 7, 3) := by decide +kernel
theorem dX1_passOne_23 : decode cX1_passOne 23 = .ok (.iconst 1, 1) := by decide +kernel
theorem dX1_passOne_24 : decode cX1_passOne 24 = .ok (.goto 4, 3) := by decide +kernel
theorem dX1_passOne_27 : decode cX1_passOne 27 = .ok (.iconst 0, 1) := by decide +kernel
theorem dX1_passOne_28 : decode cX1_passOne 28 = .ok (.istore_n 1, 1) := by decide +kernel
theorem dX1_passOne_29 : decode cX1_passOne 29 = .ok (.aload_n 0, 1) := by decide +kernel
theorem dX1_passOne_30 : decode cX1_passOne 30 = .ok (.invokevirtual 173, 3) := by decide +kernel
theorem dX1_passOne_33 : decode cX1_passOne 33 = .ok (.bipush 100, 2) := by decide +kernel
theorem dX1_passOne_35 : decode cX1_passOne 35 = .ok (.irem, 1) := by decide +kernel
theorem dX1_passOne_36 : decode cX1_passOne 36 = .ok (.aload_n 0, 1) := by decide +kernel
theorem dX1_passOne_37 : decode cX1_passOne 37 = .ok (.getfield 28, 3) := by decide +kernel
theorem dX1_passOne_40 : decode cX1_passOne 40 = .ok (.iconst 3, 1) := by decide +kernel
theorem dX1_passOne_41 : decode cX1_passOne 41 = .ok (.iaload, 1) := by decide +kernel
theorem dX1_passOne_42 : decode cX1_passOne 42 = .ok (.if_icmp .ge 7, 3) := by decide +kernel
theorem dX1_passOne_45 : decode cX1_passOne 45 = .ok (.aload_n 0, 1) := by decide +kernel
theorem dX1_passOne_46 : decode cX1_passOne 46 = .ok (.invokevirtual 179, 3) := by decide +kernel
theorem dX1_passOne_49 : decode cX1_passOne 49 = .ok (.aload_n 0, 1) := by decide +kernel
theorem dX1_passOne_50 : decode cX1_passOne 50 = .ok (.dup, 1) := by decide +kernel
theorem dX1_passOne_51 : decode cX1_passOne 51 = .ok (.getfield 65, 3) := by decide +kernel
theorem dX1_passOne_54 : decode cX1_passOne 54 = .ok (.iconst 1, 1) := by decide +kernel
theorem dX1_passOne_55 : decode cX1_passOne 55 = .ok (.iadd, 1) := by decide +kernel
theorem dX1_passOne_56 : decode cX1_passOne 56 = .ok (.putfield 65, 3) := by decide +kernel
theorem dX1_passOne_59 : decode cX1_passOne 59 = .ok (.iload_n 1, 1) := by decide +kernel
theorem dX1_passOne_60 : decode cX1_passOne 60 = .ok (.ireturn, 1) := by decide +kernel
theorem dX1_oneComes_0 : decode cX1_oneComes 0 = .ok (.iconst 0, 1) := by decide +kernel
theorem dX1_oneComes_1 : decode cX1_oneComes 1 = .ok (.istore_n 1, 1) := by decide +kernel
theorem dX1_oneComes_2 : decode cX1_oneComes 2 = .ok (.iload_n 1, 1) := by decide +kernel
theorem dX1_oneComes_3 : decode cX1_oneComes 3 = .ok (.aload_n 0, 1) := by decide +kernel
theorem dX1_oneComes_4 : decode cX1_oneComes 4 = .ok (.getfield 50, 3) := by decide +kernel
theorem dX1_oneComes_7 : decode cX1_oneComes 7 = .ok (.if_icmp .ge 58, 3) := by decide +kernel
theorem dX1_oneComes_10 : decode cX1_oneComes 10 = .ok (.aload_n 0, 1) := by decide +kernel
theorem dX1_oneComes_11 : decode cX1_oneComes 11 = .ok (.getfield 20, 3) := by decide +kernel
theorem dX1_oneComes_14 : decode cX1_oneComes 14 = .ok (.iload_n 1, 1) := by decide +kernel
theorem dX1_oneComes_15 : decode cX1_oneComes 15 = .ok (.aaload, 1) := by decide +kernel
theorem dX1_oneComes_16 : decode cX1_oneComes 16 = .ok (.invokevirtual 87, 3) := by decide +kernel
theorem dX1_oneComes_19 : decode cX1_oneComes 19 = .ok (.ifCond .ne 40, 3) := by decide +kernel
theorem dX1_oneComes_22 : decode cX1_oneComes 22 = .ok (.aload_n 0, 1) := by decide +kernel
theorem dX1_oneComes_23 : decode cX1_oneComes 23 = .ok (.aload_n 0, 1) := by decide +kernel
theorem dX1_oneComes_24 : decode cX1_oneComes 24 = .ok (.aload_n 0, 1) := by decide +kernel
theorem dX1_oneComes_25 : decode cX1_oneComes 25 = .ok (.getfield 20, 3) := by decide +kernel
theorem dX1_oneComes_28 : decode cX1_oneComes 28 = .ok (.iload_n 1, 1) := by decide +kernel
theorem dX1_oneComes_29 : decode cX1_oneComes 29 = .ok (.aaload, 1) := by decide +kernel
theorem dX1_oneComes_30 : decode cX1_oneComes 30 = .ok (.invokevirtual 182, 3) := by decide +kernel
theorem dX1_oneComes_33 : decode cX1_oneComes 33 = .ok (.invokevirtual 185, 3) := by decide +kernel
theorem dX1_oneComes_36 : decode cX1_oneComes 36 = .ok (.istore_n 2, 1) := by decide +kernel
theorem dX1_oneComes_37 : decode cX1_oneComes 37 = .ok (.iload_n 2, 1) := by decide +kernel
theorem dX1_oneComes_38 : decode cX1_oneComes 38 = .ok (.ldc 41, 2) := by decide +kernel
theorem dX1_oneComes_40 : decode cX1_oneComes 40 = .ok (.if_icmp .ne 5, 3) := by decide +kernel
theorem dX1_oneComes_43 : decode cX1_oneComes 43 = .ok (.iconst 0, 1) := by decide +kernel
theorem dX1_oneComes_44 : decode cX1_oneComes 44 = .ok (.ireturn, 1) := by decide +kernel
theorem dX1_oneComes_45 : decode cX1_oneComes 45 = .ok (.aload_n 0, 1) := by decide +kernel
theorem dX1_oneComes_46 : decode cX1_oneComes 46 = .ok (.aload_n 0, 1) := by decide +kernel
theorem dX1_oneComes_47 : decode cX1_oneComes 47 = .ok (.getfield 20, 3) := by decide +kernel
theorem dX1_oneComes_50 : decode cX1_oneComes 50 = .ok (.iload_n 1, 1) := by decide +kernel
theorem dX1_oneComes_51 : decode cX1_oneComes 51 = .ok (.aaload, 1) := by decide +kernel
theorem dX1_oneComes_52 : decode cX1_oneComes 52 = .ok (.iload_n 2, 1) := by decide +kernel
theorem dX1_oneComes_53 : decode cX1_oneComes 53 = .ok (.invokevirtual 188, 3) := by decide +kernel
theorem dX1_oneComes_56 : decode cX1_oneComes 56 = .ok (.pop, 1) := by decide +kernel
theorem dX1_oneComes_57 : decode cX1_oneComes 57 = .ok (.iconst 1, 1) := by decide +kernel
theorem dX1_oneComes_58 : decode cX1_oneComes 58 = .ok (.ireturn, 1) := by decide +kernel
theorem dX1_oneComes_59 : decode cX1_oneComes 59 = .ok (.iinc 1 1, 3) := by decide +kernel
theorem dX1_oneComes_62 : decode cX1_oneComes 62 = .ok (.goto (-60), 3) := by decide +kernel
theorem dX1_oneComes_65 : decode cX1_oneComes 65 = .ok (.iconst 0, 1) := by decide +kernel
theorem dX1_oneComes_66 : decode cX1_oneComes 66 = .ok (.ireturn, 1) := by decide +kernel
theorem dX1_choose_0 : decode cX1_choose 0 = .ok (.iload_n 1, 1) := by decide +kernel
theorem dX1_choose_1 : decode cX1_choose 1 = .ok (.invokestatic 105, 3) := by decide +kernel
theorem dX1_choose_4 : decode cX1_choose 4 = .ok (.istore_n 2, 1) := by decide +kernel
theorem dX1_choose_5 : decode cX1_choose 5 = .ok (.iload_n 2, 1) := by decide +kernel
theorem dX1_choose_6 : decode cX1_choose 6 = .ok (.ifCond .ne 6, 3) := by decide +kernel
theorem dX1_choose_9 : decode cX1_choose 9 = .ok (.ldc 41, 2) := by decide +kernel
theorem dX1_choose_11 : decode cX1_choose 11 = .ok (.ireturn, 1) := by decide +kernel
theorem dX1_choose_12 : decode cX1_choose 12 = .ok (.aload_n 0, 1) := by decide +kernel
theorem dX1_choose_13 : decode cX1_choose 13 = .ok (.getfield 28, 3) := by decide +kernel
theorem dX1_choose_16 : decode cX1_choose 16 = .ok (.iconst 1, 1) := by decide +kernel
theorem dX1_choose_17 : decode cX1_choose 17 = .ok (.iaload, 1) := by decide +kernel
theorem dX1_choose_18 : decode cX1_choose 18 = .ok (.ifCond .ne 15, 3) := by decide +kernel
theorem dX1_choose_21 : decode cX1_choose 21 = .ok (.aload_n 0, 1) := by decide +kernel
theorem dX1_choose_22 : decode cX1_choose 22 = .ok (.iload_n 1, 1) := by decide +kernel
theorem dX1_choose_23 : decode cX1_choose 23 = .ok (.aload_n 0, 1) := by decide +kernel
theorem dX1_choose_24 : decode cX1_choose 24 = .ok (.invokevirtual 173, 3) := by decide +kernel
theorem dX1_choose_27 : decode cX1_choose 27 = .ok (.iload_n 2, 1) := by decide +kernel
theorem dX1_choose_28 : decode cX1_choose 28 = .ok (.irem, 1) := by decide +kernel
theorem dX1_choose_29 : decode cX1_choose 29 = .ok (.invokevirtual 192, 3) := by decide +kernel
theorem dX1_choose_32 : decode cX1_choose 32 = .ok (.ireturn, 1) := by decide +kernel
theorem dX1_choose_33 : decode cX1_choose 33 = .ok (.iload_n 1, 1) := by decide +kernel
theorem dX1_choose_34 : decode cX1_choose 34 = .ok (.invokestatic 195, 3) := by decide +kernel
theorem dX1_choose_37 : decode cX1_choose 37 = .ok (.istore_n 3, 1) := by decide +kernel
theorem dX1_choose_38 : decode cX1_choose 38 = .ok (.aload_n 0, 1) := by decide +kernel
theorem dX1_choose_39 : decode cX1_choose 39 = .ok (.getfield 28, 3) := by decide +kernel
theorem dX1_choose_42 : decode cX1_choose 42 = .ok (.iconst 1, 1) := by decide +kernel
theorem dX1_choose_43 : decode cX1_choose 43 = .ok (.iaload, 1) := by decide +kernel
theorem dX1_choose_44 : decode cX1_choose 44 = .ok (.iconst 1, 1) := by decide +kernel
theorem dX1_choose_45 : decode cX1_choose 45 = .ok (.if_icmp .ne 5, 3) := by decide +kernel
theorem dX1_choose_48 : decode cX1_choose 48 = .ok (.iload_n 3, 1) := by decide +kernel
theorem dX1_choose_49 : decode cX1_choose 49 = .ok (.ireturn, 1) := by decide +kernel
theorem dX1_choose_50 : decode cX1_choose 50 = .ok (.iload_n 3, 1) := by decide +kernel
theorem dX1_choose_51 : decode cX1_choose 51 = .ok (.iconst 1, 1) := by decide +kernel
theorem dX1_choose_52 : decode cX1_choose 52 = .ok (.iadd, 1) := by decide +kernel
theorem dX1_choose_53 : decode cX1_choose 53 = .ok (.istore 4, 2) := by decide +kernel
theorem dX1_choose_55 : decode cX1_choose 55 = .ok (.iload 4, 2) := by decide +kernel
theorem dX1_choose_57 : decode cX1_choose 57 = .ok (.aload_n 0, 1) := by decide +kernel
theorem dX1_choose_58 : decode cX1_choose 58 = .ok (.getfield 12, 3) := by decide +kernel
theorem dX1_choose_61 : decode cX1_choose 61 = .ok (.getfield 95, 3) := by decide +kernel
theorem dX1_choose_64 : decode cX1_choose 64 = .ok (.if_icmp .ge 37, 3) := by decide +kernel
theorem dX1_choose_67 : decode cX1_choose 67 = .ok (.iload_n 1, 1) := by decide +kernel
theorem dX1_choose_68 : decode cX1_choose 68 = .ok (.iload 4, 2) := by decide +kernel
theorem dX1_choose_70 : decode cX1_choose 70 = .ok (.invokestatic 198, 3) := by decide +kernel
theorem dX1_choose_73 : decode cX1_choose 73 = .ok (.ifCond .eq 22, 3) := by decide +kernel
theorem dX1_choose_76 : decode cX1_choose 76 = .ok (.aload_n 0, 1) := by decide +kernel
theorem dX1_choose_77 : decode cX1_choose 77 = .ok (.getfield 24, 3) := by decide +kernel
theorem dX1_choose_80 : decode cX1_choose 80 = .ok (.iload 4, 2) := by decide +kernel
theorem dX1_choose_82 : decode cX1_choose 82 = .ok (.iaload, 1) := by decide +kernel
theorem dX1_choose_83 : decode cX1_choose 83 = .ok (.aload_n 0, 1) := by decide +kernel
theorem dX1_choose_84 : decode cX1_choose 84 = .ok (.getfield 24, 3) := by decide +kernel
theorem dX1_choose_87 : decode cX1_choose 87 = .ok (.iload_n 3, 1) := by decide +kernel
theorem dX1_choose_88 : decode cX1_choose 88 = .ok (.iaload, 1) := by decide +kernel
theorem dX1_choose_89 : decode cX1_choose 89 = .ok (.if_icmp .le 6, 3) := by decide +kernel
theorem dX1_choose_92 : decode cX1_choose 92 = .ok (.iload 4, 2) := by decide +kernel
theorem dX1_choose_94 : decode cX1_choose 94 = .ok (.istore_n 3, 1) := by decide +kernel
theorem dX1_choose_95 : decode cX1_choose 95 = .ok (.iinc 4 1, 3) := by decide +kernel
theorem dX1_choose_98 : decode cX1_choose 98 = .ok (.goto (-43), 3) := by decide +kernel
theorem dX1_choose_101 : decode cX1_choose 101 = .ok (.iload_n 3, 1) := by decide +kernel
theorem dX1_choose_102 : decode cX1_choose 102 = .ok (.ireturn, 1) := by decide +kernel
theorem dX1_nthOf_0 : decode cX1_nthOf 0 = .ok (.iconst 0, 1) := by decide +kernel
theorem dX1_nthOf_1 : decode cX1_nthOf 1 = .ok (.istore_n 3, 1) := by decide +kernel
theorem dX1_nthOf_2 : decode cX1_nthOf 2 = .ok (.iconst 0, 1) := by decide +kernel
theorem dX1_nthOf_3 : decode cX1_nthOf 3 = .ok (.istore 4, 2) := by decide +kernel
theorem dX1_nthOf_5 : decode cX1_nthOf 5 = .ok (.iload 4, 2) := by decide +kernel
theorem dX1_nthOf_7 : decode cX1_nthOf 7 = .ok (.aload_n 0, 1) := by decide +kernel
theorem dX1_nthOf_8 : decode cX1_nthOf 8 = .ok (.getfield 12, 3) := by decide +kernel
theorem dX1_nthOf_11 : decode cX1_nthOf 11 = .ok (.getfield 95, 3) := by decide +kernel
theorem dX1_nthOf_14 : decode cX1_nthOf 14 = .ok (.if_icmp .ge 29, 3) := by decide +kernel
theorem dX1_nthOf_17 : decode cX1_nthOf 17 = .ok (.iload_n 1, 1) := by decide +kernel
theorem dX1_nthOf_18 : decode cX1_nthOf 18 = .ok (.iload 4, 2) := by decide +kernel
theorem dX1_nthOf_20 : decode cX1_nthOf 20 = .ok (.invokestatic 198, 3) := by decide +kernel
theorem dX1_nthOf_23 : decode cX1_nthOf 23 = .ok (.ifCond .eq 14, 3) := by decide +kernel
theorem dX1_nthOf_26 : decode cX1_nthOf 26 = .ok (.iload_n 3, 1) := by decide +kernel
theorem dX1_nthOf_27 : decode cX1_nthOf 27 = .ok (.iload_n 2, 1) := by decide +kernel
theorem dX1_nthOf_28 : decode cX1_nthOf 28 = .ok (.if_icmp .ne 6, 3) := by decide +kernel
theorem dX1_nthOf_31 : decode cX1_nthOf 31 = .ok (.iload 4, 2) := by decide +kernel
theorem dX1_nthOf_33 : decode cX1_nthOf 33 = .ok (.ireturn, 1) := by decide +kernel
theorem dX1_nthOf_34 : decode cX1_nthOf 34 = .ok (.iinc 3 1, 3) := by decide +kernel
theorem dX1_nthOf_37 : decode cX1_nthOf 37 = .ok (.iinc 4 1, 3) := by decide +kernel
theorem dX1_nthOf_40 : decode cX1_nthOf 40 = .ok (.goto (-35), 3) := by decide +kernel
theorem dX1_nthOf_43 : decode cX1_nthOf 43 = .ok (.ldc 41, 2) := by decide +kernel
theorem dX1_nthOf_45 : decode cX1_nthOf 45 = .ok (.ireturn, 1) := by decide +kernel
theorem dX1_oneRises_0 : decode cX1_oneRises 0 = .ok (.aload_n 0, 1) := by decide +kernel
theorem dX1_oneRises_1 : decode cX1_oneRises 1 = .ok (.getfield 50, 3) := by decide +kernel
theorem dX1_oneRises_4 : decode cX1_oneRises 4 = .ok (.ifCond .le 21, 3) := by decide +kernel
theorem dX1_oneRises_7 : decode cX1_oneRises 7 = .ok (.aload_n 0, 1) := by decide +kernel
theorem dX1_oneRises_8 : decode cX1_oneRises 8 = .ok (.getfield 20, 3) := by decide +kernel
theorem dX1_oneRises_11 : decode cX1_oneRises 11 = .ok (.aload_n 0, 1) := by decide +kernel
theorem dX1_oneRises_12 : decode cX1_oneRises 12 = .ok (.invokevirtual 173, 3) := by decide +kernel
theorem dX1_oneRises_15 : decode cX1_oneRises 15 = .ok (.aload_n 0, 1) := by decide +kernel
theorem dX1_oneRises_16 : decode cX1_oneRises 16 = .ok (.getfield 50, 3) := by decide +kernel
theorem dX1_oneRises_19 : decode cX1_oneRises 19 = .ok (.irem, 1) := by decide +kernel
theorem dX1_oneRises_20 : decode cX1_oneRises 20 = .ok (.aaload, 1) := by decide +kernel
theorem dX1_oneRises_21 : decode cX1_oneRises 21 = .ok (.iconst (-1), 1) := by decide +kernel
theorem dX1_oneRises_22 : decode cX1_oneRises 22 = .ok (.putfield 79, 3) := by decide +kernel
theorem dX1_oneRises_25 : decode cX1_oneRises 25 = .ok (.return_, 1) := by decide +kernel
theorem dX2_init_0 : decode cX2_init 0 = .ok (.aload_n 0, 1) := by decide +kernel
theorem dX2_init_1 : decode cX2_init 1 = .ok (.invokespecial 3, 3) := by decide +kernel
theorem dX2_init_4 : decode cX2_init 4 = .ok (.aload_n 0, 1) := by decide +kernel
theorem dX2_init_5 : decode cX2_init 5 = .ok (.sipush 4096, 3) := by decide +kernel
theorem dX2_init_8 : decode cX2_init 8 = .ok (.newarray .int, 2) := by decide +kernel
theorem dX2_init_10 : decode cX2_init 10 = .ok (.putfield 9, 3) := by decide +kernel
theorem dX2_init_13 : decode cX2_init 13 = .ok (.aload_n 0, 1) := by decide +kernel
theorem dX2_init_14 : decode cX2_init 14 = .ok (.bipush 12, 2) := by decide +kernel
theorem dX2_init_16 : decode cX2_init 16 = .ok (.newarray .int, 2) := by decide +kernel
theorem dX2_init_18 : decode cX2_init 18 = .ok (.putfield 15, 3) := by decide +kernel
theorem dX2_init_21 : decode cX2_init 21 = .ok (.return_, 1) := by decide +kernel
theorem dX2_foresee_0 : decode cX2_foresee 0 = .ok (.aload_n 1, 1) := by decide +kernel
theorem dX2_foresee_1 : decode cX2_foresee 1 = .ok (.getfield 18, 3) := by decide +kernel
theorem dX2_foresee_4 : decode cX2_foresee 4 = .ok (.iload_n 2, 1) := by decide +kernel
theorem dX2_foresee_5 : decode cX2_foresee 5 = .ok (.iconst (-1), 1) := by decide +kernel
theorem dX2_foresee_6 : decode cX2_foresee 6 = .ok (.ixor, 1) := by decide +kernel
theorem dX2_foresee_7 : decode cX2_foresee 7 = .ok (.iand, 1) := by decide +kernel
theorem dX2_foresee_8 : decode cX2_foresee 8 = .ok (.istore 4, 2) := by decide +kernel
theorem dX2_foresee_10 : decode cX2_foresee 10 = .ok (.iload 4, 2) := by decide +kernel
theorem dX2_foresee_12 : decode cX2_foresee 12 = .ok (.istore 5, 2) := by decide +kernel
theorem dX2_foresee_14 : decode cX2_foresee 14 = .ok (.iconst 1, 1) := by decide +kernel
theorem dX2_foresee_15 : decode cX2_foresee 15 = .ok (.iload 4, 2) := by decide +kernel
theorem dX2_foresee_17 : decode cX2_foresee 17 = .ok (.invokestatic 24, 3) := by decide +kernel
theorem dX2_foresee_20 : decode cX2_foresee 20 = .ok (.ishl, 1) := by decide +kernel
theorem dX2_foresee_21 : decode cX2_foresee 21 = .ok (.istore 6, 2) := by decide +kernel
theorem dX2_foresee_23 : decode cX2_foresee 23 = .ok (.iload 6, 2) := by decide +kernel
theorem dX2_foresee_25 : decode cX2_foresee 25 = .ok (.ifCond .le 44, 3) := by decide +kernel
theorem dX2_foresee_28 : decode cX2_foresee 28 = .ok (.iload_n 2, 1) := by decide +kernel
theorem dX2_foresee_29 : decode cX2_foresee 29 = .ok (.iload 5, 2) := by decide +kernel
theorem dX2_foresee_31 : decode cX2_foresee 31 = .ok (.ior, 1) := by decide +kernel
theorem dX2_foresee_32 : decode cX2_foresee 32 = .ok (.istore 7, 2) := by decide +kernel
theorem dX2_foresee_34 : decode cX2_foresee 34 = .ok (.aload_n 0, 1) := by decide +kernel
theorem dX2_foresee_35 : decode cX2_foresee 35 = .ok (.getfield 9, 3) := by decide +kernel
theorem dX2_foresee_38 : decode cX2_foresee 38 = .ok (.iload 7, 2) := by decide +kernel
theorem dX2_foresee_40 : decode cX2_foresee 40 = .ok (.aload_n 0, 1) := by decide +kernel
theorem dX2_foresee_41 : decode cX2_foresee 41 = .ok (.iload 7, 2) := by decide +kernel
theorem dX2_foresee_43 : decode cX2_foresee 43 = .ok (.aload_n 1, 1) := by decide +kernel
theorem dX2_foresee_44 : decode cX2_foresee 44 = .ok (.iload 7, 2) := by decide +kernel
theorem dX2_foresee_46 : decode cX2_foresee 46 = .ok (.invokevirtual 30, 3) := by decide +kernel
theorem dX2_foresee_49 : decode cX2_foresee 49 = .ok (.iload_n 3, 1) := by decide +kernel
theorem dX2_foresee_50 : decode cX2_foresee 50 = .ok (.invokevirtual 33, 3) := by decide +kernel
theorem dX2_foresee_53 : decode cX2_foresee 53 = .ok (.iastore, 1) := by decide +kernel
theorem dX2_foresee_54 : decode cX2_foresee 54 = .ok (.iload 5, 2) := by decide +kernel
theorem dX2_foresee_56 : decode cX2_foresee 56 = .ok (.iconst 1, 1) := by decide +kernel
theorem dX2_foresee_57 : decode cX2_foresee 57 = .ok (.isub, 1) := by decide +kernel
theorem dX2_foresee_58 : decode cX2_foresee 58 = .ok (.iload 4, 2) := by decide +kernel
theorem dX2_foresee_60 : decode cX2_foresee 60 = .ok (.iand, 1) := by decide +kernel
theorem dX2_foresee_61 : decode cX2_foresee 61 = .ok (.istore 5, 2) := by decide +kernel
theorem dX2_foresee_63 : decode cX2_foresee 63 = .ok (.iinc 6 (-1), 3) := by decide +kernel
theorem dX2_foresee_66 : decode cX2_foresee 66 = .ok (.goto (-43), 3) := by decide +kernel
theorem dX2_foresee_69 : decode cX2_foresee 69 = .ok (.aload_n 0, 1) := by decide +kernel
theorem dX2_foresee_70 : decode cX2_foresee 70 = .ok (.getfield 9, 3) := by decide +kernel
theorem dX2_foresee_73 : decode cX2_foresee 73 = .ok (.iload_n 2, 1) := by decide +kernel
theorem dX2_foresee_74 : decode cX2_foresee 74 = .ok (.iaload, 1) := by decide +kernel
theorem dX2_foresee_75 : decode cX2_foresee 75 = .ok (.ireturn, 1) := by decide +kernel
theorem dX2_joined_0 : decode cX2_joined 0 = .ok (.iload_n 2, 1) := by decide +kernel
theorem dX2_joined_1 : decode cX2_joined 1 = .ok (.ifCond .ne 14, 3) := by decide +kernel
theorem dX2_joined_4 : decode cX2_joined 4 = .ok (.iload_n 3, 1) := by decide +kernel
theorem dX2_joined_5 : decode cX2_joined 5 = .ok (.iconst 2, 1) := by decide +kernel
theorem dX2_joined_6 : decode cX2_joined 6 = .ok (.if_icmp .ne 7, 3) := by decide +kernel
theorem dX2_joined_9 : decode cX2_joined 9 = .ok (.iconst 1, 1) := by decide +kernel
theorem dX2_joined_10 : decode cX2_joined 10 = .ok (.goto 4, 3) := by decide +kernel
theorem dX2_joined_13 : decode cX2_joined 13 = .ok (.iconst 0, 1) := by decide +kernel
theorem dX2_joined_14 : decode cX2_joined 14 = .ok (.ireturn, 1) := by decide +kernel
theorem dX2_joined_15 : decode cX2_joined 15 = .ok (.iconst 0, 1) := by decide +kernel
theorem dX2_joined_16 : decode cX2_joined 16 = .ok (.istore 4, 2) := by decide +kernel
theorem dX2_joined_18 : decode cX2_joined 18 = .ok (.ldc 37, 2) := by decide +kernel
theorem dX2_joined_20 : decode cX2_joined 20 = .ok (.istore 5, 2) := by decide +kernel
theorem dX2_joined_22 : decode cX2_joined 22 = .ok (.lconst 0, 1) := by decide +kernel
theorem dX2_joined_23 : decode cX2_joined 23 = .ok (.lstore 6, 2) := by decide +kernel
theorem dX2_joined_25 : decode cX2_joined 25 = .ok (.iload_n 2, 1) := by decide +kernel
theorem dX2_joined_26 : decode cX2_joined 26 = .ok (.istore 8, 2) := by decide +kernel
theorem dX2_joined_28 : decode cX2_joined 28 = .ok (.iload_n 2, 1) := by decide +kernel
theorem dX2_joined_29 : decode cX2_joined 29 = .ok (.invokestatic 24, 3) := by decide +kernel
theorem dX2_joined_32 : decode cX2_joined 32 = .ok (.istore 9, 2) := by decide +kernel
theorem dX2_joined_34 : decode cX2_joined 34 = .ok (.iload 9, 2) := by decide +kernel
theorem dX2_joined_36 : decode cX2_joined 36 = .ok (.ifCond .le 73, 3) := by decide +kernel
theorem dX2_joined_39 : decode cX2_joined 39 = .ok (.aload_n 0, 1) := by decide +kernel
theorem dX2_joined_40 : decode cX2_joined 40 = .ok (.getfield 9, 3) := by decide +kernel
theorem dX2_joined_43 : decode cX2_joined 43 = .ok (.iload_n 1, 1) := by decide +kernel
theorem dX2_joined_44 : decode cX2_joined 44 = .ok (.iload 8, 2) := by decide +kernel
theorem dX2_joined_46 : decode cX2_joined 46 = .ok (.iload 8, 2) := by decide +kernel
theorem dX2_joined_48 : decode cX2_joined 48 = .ok (.ineg, 1) := by decide +kernel
theorem dX2_joined_49 : decode cX2_joined 49 = .ok (.iand, 1) := by decide +kernel
theorem dX2_joined_50 : decode cX2_joined 50 = .ok (.ior, 1) := by decide +kernel
theorem dX2_joined_51 : decode cX2_joined 51 = .ok (.iaload, 1) := by decide +kernel
theorem dX2_joined_52 : decode cX2_joined 52 = .ok (.istore 10, 2) := by decide +kernel
theorem dX2_joined_54 : decode cX2_joined 54 = .ok (.iload 8, 2) := by decide +kernel
theorem dX2_joined_56 : decode cX2_joined 56 = .ok (.iload 8, 2) := by decide +kernel
theorem dX2_joined_58 : decode cX2_joined 58 = .ok (.iconst 1, 1) := by decide +kernel
theorem dX2_joined_59 : decode cX2_joined 59 = .ok (.isub, 1) := by decide +kernel
theorem dX2_joined_60 : decode cX2_joined 60 = .ok (.iand, 1) := by decide +kernel
theorem dX2_joined_61 : decode cX2_joined 61 = .ok (.istore 8, 2) := by decide +kernel
theorem dX2_joined_63 : decode cX2_joined 63 = .ok (.iload 10, 2) := by decide +kernel
theorem dX2_joined_65 : decode cX2_joined 65 = .ok (.iload 4, 2) := by decide +kernel
theorem dX2_joined_67 : decode cX2_joined 67 = .ok (.if_icmp .le 8, 3) := by decide +kernel
theorem dX2_joined_70 : decode cX2_joined 70 = .ok (.iload 10, 2) := by decide +kernel
theorem dX2_joined_72 : decode cX2_joined 72 = .ok (.goto 5, 3) := by decide +kernel
theorem dX2_joined_75 : decode cX2_joined 75 = .ok (.iload 4, 2) := by decide +kernel
theorem dX2_joined_77 : decode cX2_joined 77 = .ok (.istore 4, 2) := by decide +kernel
theorem dX2_joined_79 : decode cX2_joined 79 = .ok (.iload 10, 2) := by decide +kernel
theorem dX2_joined_81 : decode cX2_joined 81 = .ok (.iload 5, 2) := by decide +kernel
theorem dX2_joined_83 : decode cX2_joined 83 = .ok (.if_icmp .ge 8, 3) := by decide +kernel
theorem dX2_joined_86 : decode cX2_joined 86 = .ok (.iload 10, 2) := by decide +kernel
theorem dX2_joined_88 : decode cX2_joined 88 = .ok (.goto 5, 3) := by decide +kernel
theorem dX2_joined_91 : decode cX2_joined 91 = .ok (.iload 5, 2) := by decide +kernel
theorem dX2_joined_93 : decode cX2_joined 93 = .ok (.istore 5, 2) := by decide +kernel
theorem dX2_joined_95 : decode cX2_joined 95 = .ok (.lload 6, 2) := by decide +kernel
theorem dX2_joined_97 : decode cX2_joined 97 = .ok (.iload 10, 2) := by decide +kernel
theorem dX2_joined_99 : decode cX2_joined 99 = .ok (.i2l, 1) := by decide +kernel
theorem dX2_joined_100 : decode cX2_joined 100 = .ok (.ladd, 1) := by decide +kernel
theorem dX2_joined_101 : decode cX2_joined 101 = .ok (.lstore 6, 2) := by decide +kernel
theorem dX2_joined_103 : decode cX2_joined 103 = .ok (.iinc 9 (-1), 3) := by decide +kernel
theorem dX2_joined_106 : decode cX2_joined 106 = .ok (.goto (-72), 3) := by decide +kernel
theorem dX2_joined_109 : decode cX2_joined 109 = .ok (.iload_n 3, 1) := by decide +kernel
theorem dX2_joined_110 : decode cX2_joined 110 = .ok (.tableswitch 44 0 2 #[26, 31, 36], 26) := by decide +kernel
theorem dX2_joined_136 : decode cX2_joined 136 = .ok (.iload 4, 2) := by decide +kernel
theorem dX2_joined_138 : decode cX2_joined 138 = .ok (.iconst 1, 1) := by decide +kernel
theorem dX2_joined_139 : decode cX2_joined 139 = .ok (.iadd, 1) := by decide +kernel
theorem dX2_joined_140 : decode cX2_joined 140 = .ok (.ireturn, 1) := by decide +kernel
theorem dX2_joined_141 : decode cX2_joined 141 = .ok (.iload 5, 2) := by decide +kernel
theorem dX2_joined_143 : decode cX2_joined 143 = .ok (.iconst 1, 1) := by decide +kernel
theorem dX2_joined_144 : decode cX2_joined 144 = .ok (.iadd, 1) := by decide +kernel
theorem dX2_joined_145 : decode cX2_joined 145 = .ok (.ireturn, 1) := by decide +kernel
theorem dX2_joined_146 : decode cX2_joined 146 = .ok (.lload 6, 2) := by decide +kernel
theorem dX2_joined_148 : decode cX2_joined 148 = .ok (.ldc2_w 38, 3) := by decide +kernel
theorem dX2_joined_151 : decode cX2_joined 151 = .ok (.lrem, 1) := by decide +kernel
theorem dX2_joined_152 : decode cX2_joined 152 = .ok (.l2i, 1) := by decide +kernel
theorem dX2_joined_153 : decode cX2_joined 153 = .ok (.ireturn, 1) := by decide +kernel
theorem dX2_joined_154 : decode cX2_joined 154 = .ok (.iload 5, 2) := by decide +kernel
theorem dX2_joined_156 : decode cX2_joined 156 = .ok (.ifCond .ne 7, 3) := by decide +kernel
theorem dX2_joined_159 : decode cX2_joined 159 = .ok (.iconst 1, 1) := by decide +kernel
theorem dX2_joined_160 : decode cX2_joined 160 = .ok (.goto 4, 3) := by decide +kernel
theorem dX2_joined_163 : decode cX2_joined 163 = .ok (.iconst 0, 1) := by decide +kernel
theorem dX2_joined_164 : decode cX2_joined 164 = .ok (.ireturn, 1) := by decide +kernel
theorem dX2_winning_0 : decode cX2_winning 0 = .ok (.aload_n 1, 1) := by decide +kernel
theorem dX2_winning_1 : decode cX2_winning 1 = .ok (.iload_n 2, 1) := by decide +kernel
theorem dX2_winning_2 : decode cX2_winning 2 = .ok (.invokevirtual 30, 3) := by decide +kernel
theorem dX2_winning_5 : decode cX2_winning 5 = .ok (.istore_n 3, 1) := by decide +kernel
theorem dX2_winning_6 : decode cX2_winning 6 = .ok (.iconst 0, 1) := by decide +kernel
theorem dX2_winning_7 : decode cX2_winning 7 = .ok (.istore 4, 2) := by decide +kernel
theorem dX2_winning_9 : decode cX2_winning 9 = .ok (.iconst 0, 1) := by decide +kernel
theorem dX2_winning_10 : decode cX2_winning 10 = .ok (.istore 5, 2) := by decide +kernel
theorem dX2_winning_12 : decode cX2_winning 12 = .ok (.iload 5, 2) := by decide +kernel
theorem dX2_winning_14 : decode cX2_winning 14 = .ok (.aload_n 1, 1) := by decide +kernel
theorem dX2_winning_15 : decode cX2_winning 15 = .ok (.getfield 40, 3) := by decide +kernel
theorem dX2_winning_18 : decode cX2_winning 18 = .ok (.if_icmp .ge 41, 3) := by decide +kernel
theorem dX2_winning_21 : decode cX2_winning 21 = .ok (.iload_n 3, 1) := by decide +kernel
theorem dX2_winning_22 : decode cX2_winning 22 = .ok (.iload 5, 2) := by decide +kernel
theorem dX2_winning_24 : decode cX2_winning 24 = .ok (.invokestatic 43, 3) := by decide +kernel
theorem dX2_winning_27 : decode cX2_winning 27 = .ok (.ifCond .eq 26, 3) := by decide +kernel
theorem dX2_winning_30 : decode cX2_winning 30 = .ok (.aload_n 0, 1) := by decide +kernel
theorem dX2_winning_31 : decode cX2_winning 31 = .ok (.getfield 9, 3) := by decide +kernel
theorem dX2_winning_34 : decode cX2_winning 34 = .ok (.iload_n 2, 1) := by decide +kernel
theorem dX2_winning_35 : decode cX2_winning 35 = .ok (.iconst 1, 1) := by decide +kernel
theorem dX2_winning_36 : decode cX2_winning 36 = .ok (.iload 5, 2) := by decide +kernel
theorem dX2_winning_38 : decode cX2_winning 38 = .ok (.ishl, 1) := by decide +kernel
theorem dX2_winning_39 : decode cX2_winning 39 = .ok (.ior, 1) := by decide +kernel
theorem dX2_winning_40 : decode cX2_winning 40 = .ok (.iaload, 1) := by decide +kernel
theorem dX2_winning_41 : decode cX2_winning 41 = .ok (.ifCond .ne 12, 3) := by decide +kernel
theorem dX2_winning_44 : decode cX2_winning 44 = .ok (.iload 4, 2) := by decide +kernel
theorem dX2_winning_46 : decode cX2_winning 46 = .ok (.iconst 1, 1) := by decide +kernel
theorem dX2_winning_47 : decode cX2_winning 47 = .ok (.iload 5, 2) := by decide +kernel
theorem dX2_winning_49 : decode cX2_winning 49 = .ok (.ishl, 1) := by decide +kernel
theorem dX2_winning_50 : decode cX2_winning 50 = .ok (.ior, 1) := by decide +kernel
theorem dX2_winning_51 : decode cX2_winning 51 = .ok (.istore 4, 2) := by decide +kernel
theorem dX2_winning_53 : decode cX2_winning 53 = .ok (.iinc 5 1, 3) := by decide +kernel
theorem dX2_winning_56 : decode cX2_winning 56 = .ok (.goto (-44), 3) := by decide +kernel
theorem dX2_winning_59 : decode cX2_winning 59 = .ok (.iload 4, 2) := by decide +kernel
theorem dX2_winning_61 : decode cX2_winning 61 = .ok (.ireturn, 1) := by decide +kernel
theorem dX2_weigh_0 : decode cX2_weigh 0 = .ok (.aload_n 0, 1) := by decide +kernel
theorem dX2_weigh_1 : decode cX2_weigh 1 = .ok (.aload_n 1, 1) := by decide +kernel
theorem dX2_weigh_2 : decode cX2_weigh 2 = .ok (.iload_n 2, 1) := by decide +kernel
theorem dX2_weigh_3 : decode cX2_weigh 3 = .ok (.invokevirtual 47, 3) := by decide +kernel
theorem dX2_weigh_6 : decode cX2_weigh 6 = .ok (.aload_n 0, 1) := by decide +kernel
theorem dX2_weigh_7 : decode cX2_weigh 7 = .ok (.iload_n 2, 1) := by decide +kernel
theorem dX2_weigh_8 : decode cX2_weigh 8 = .ok (.iconst (-1), 1) := by decide +kernel
theorem dX2_weigh_9 : decode cX2_weigh 9 = .ok (.ixor, 1) := by decide +kernel
theorem dX2_weigh_10 : decode cX2_weigh 10 = .ok (.invokestatic 51, 3) := by decide +kernel
theorem dX2_weigh_13 : decode cX2_weigh 13 = .ok (.putfield 54, 3) := by decide +kernel
theorem dX2_weigh_16 : decode cX2_weigh 16 = .ok (.aload_n 0, 1) := by decide +kernel
theorem dX2_weigh_17 : decode cX2_weigh 17 = .ok (.getfield 54, 3) := by decide +kernel
theorem dX2_weigh_20 : decode cX2_weigh 20 = .ok (.iconst 1, 1) := by decide +kernel
theorem dX2_weigh_21 : decode cX2_weigh 21 = .ok (.iadd, 1) := by decide +kernel
theorem dX2_weigh_22 : decode cX2_weigh 22 = .ok (.istore_n 3, 1) := by decide +kernel
theorem dX2_weigh_23 : decode cX2_weigh 23 = .ok (.iload_n 3, 1) := by decide +kernel
theorem dX2_weigh_24 : decode cX2_weigh 24 = .ok (.aload_n 1, 1) := by decide +kernel
theorem dX2_weigh_25 : decode cX2_weigh 25 = .ok (.getfield 57, 3) := by decide +kernel
theorem dX2_weigh_28 : decode cX2_weigh 28 = .ok (.getfield 40, 3) := by decide +kernel
theorem dX2_weigh_31 : decode cX2_weigh 31 = .ok (.if_icmp .ge 40, 3) := by decide +kernel
theorem dX2_weigh_34 : decode cX2_weigh 34 = .ok (.iload_n 2, 1) := by decide +kernel
theorem dX2_weigh_35 : decode cX2_weigh 35 = .ok (.iload_n 3, 1) := by decide +kernel
theorem dX2_weigh_36 : decode cX2_weigh 36 = .ok (.invokestatic 43, 3) := by decide +kernel
theorem dX2_weigh_39 : decode cX2_weigh 39 = .ok (.ifCond .ne 26, 3) := by decide +kernel
theorem dX2_weigh_42 : decode cX2_weigh 42 = .ok (.aload_n 0, 1) := by decide +kernel
theorem dX2_weigh_43 : decode cX2_weigh 43 = .ok (.getfield 15, 3) := by decide +kernel
theorem dX2_weigh_46 : decode cX2_weigh 46 = .ok (.iload_n 3, 1) := by decide +kernel
theorem dX2_weigh_47 : decode cX2_weigh 47 = .ok (.iaload, 1) := by decide +kernel
theorem dX2_weigh_48 : decode cX2_weigh 48 = .ok (.aload_n 0, 1) := by decide +kernel
theorem dX2_weigh_49 : decode cX2_weigh 49 = .ok (.getfield 15, 3) := by decide +kernel
theorem dX2_weigh_52 : decode cX2_weigh 52 = .ok (.aload_n 0, 1) := by decide +kernel
theorem dX2_weigh_53 : decode cX2_weigh 53 = .ok (.getfield 54, 3) := by decide +kernel
theorem dX2_weigh_56 : decode cX2_weigh 56 = .ok (.iaload, 1) := by decide +kernel
theorem dX2_weigh_57 : decode cX2_weigh 57 = .ok (.if_icmp .le 8, 3) := by decide +kernel
theorem dX2_weigh_60 : decode cX2_weigh 60 = .ok (.aload_n 0, 1) := by decide +kernel
theorem dX2_weigh_61 : decode cX2_weigh 61 = .ok (.iload_n 3, 1) := by decide +kernel
theorem dX2_weigh_62 : decode cX2_weigh 62 = .ok (.putfield 54, 3) := by decide +kernel
theorem dX2_weigh_65 : decode cX2_weigh 65 = .ok (.iinc 3 1, 3) := by decide +kernel
theorem dX2_weigh_68 : decode cX2_weigh 68 = .ok (.goto (-45), 3) := by decide +kernel
theorem dX2_weigh_71 : decode cX2_weigh 71 = .ok (.aload_n 0, 1) := by decide +kernel
theorem dX2_weigh_72 : decode cX2_weigh 72 = .ok (.aload_n 0, 1) := by decide +kernel
theorem dX2_weigh_73 : decode cX2_weigh 73 = .ok (.getfield 15, 3) := by decide +kernel
theorem dX2_weigh_76 : decode cX2_weigh 76 = .ok (.aload_n 0, 1) := by decide +kernel
theorem dX2_weigh_77 : decode cX2_weigh 77 = .ok (.getfield 54, 3) := by decide +kernel
theorem dX2_weigh_80 : decode cX2_weigh 80 = .ok (.iaload, 1) := by decide +kernel
theorem dX2_weigh_81 : decode cX2_weigh 81 = .ok (.iconst (-1), 1) := by decide +kernel
theorem dX2_weigh_82 : decode cX2_weigh 82 = .ok (.if_icmp .ne 7, 3) := by decide +kernel
theorem dX2_weigh_85 : decode cX2_weigh 85 = .ok (.iconst 0, 1) := by decide +kernel
theorem dX2_weigh_86 : decode cX2_weigh 86 = .ok (.goto 15, 3) := by decide +kernel
theorem dX2_weigh_89 : decode cX2_weigh 89 = .ok (.aload_n 0, 1) := by decide +kernel
theorem dX2_weigh_90 : decode cX2_weigh 90 = .ok (.getfield 15, 3) := by decide +kernel
theorem dX2_weigh_93 : decode cX2_weigh 93 = .ok (.aload_n 0, 1) := by decide +kernel
theorem dX2_weigh_94 : decode cX2_weigh 94 = .ok (.getfield 54, 3) := by decide +kernel
theorem dX2_weigh_97 : decode cX2_weigh 97 = .ok (.iaload, 1) := by decide +kernel
theorem dX2_weigh_98 : decode cX2_weigh 98 = .ok (.bipush 50, 2) := by decide +kernel
theorem dX2_weigh_100 : decode cX2_weigh 100 = .ok (.iadd, 1) := by decide +kernel
theorem dX2_weigh_101 : decode cX2_weigh 101 = .ok (.putfield 63, 3) := by decide +kernel
theorem dX2_weigh_104 : decode cX2_weigh 104 = .ok (.return_, 1) := by decide +kernel
theorem dX2_gatherGains_0 : decode cX2_gatherGains 0 = .ok (.aload_n 1, 1) := by decide +kernel
theorem dX2_gatherGains_1 : decode cX2_gatherGains 1 = .ok (.getfield 57, 3) := by decide +kernel
theorem dX2_gatherGains_4 : decode cX2_gatherGains 4 = .ok (.astore_n 3, 1) := by decide +kernel
theorem dX2_gatherGains_5 : decode cX2_gatherGains 5 = .ok (.iconst 0, 1) := by decide +kernel
theorem dX2_gatherGains_6 : decode cX2_gatherGains 6 = .ok (.istore 4, 2) := by decide +kernel
theorem dX2_gatherGains_8 : decode cX2_gatherGains 8 = .ok (.iload 4, 2) := by decide +kernel
theorem dX2_gatherGains_10 : decode cX2_gatherGains 10 = .ok (.bipush 12, 2) := by decide +kernel
theorem dX2_gatherGains_12 : decode cX2_gatherGains 12 = .ok (.if_icmp .ge 17, 3) := by decide +kernel
theorem dX2_gatherGains_15 : decode cX2_gatherGains 15 = .ok (.aload_n 0, 1) := by decide +kernel
theorem dX2_gatherGains_16 : decode cX2_gatherGains 16 = .ok (.getfield 15, 3) := by decide +kernel
theorem dX2_gatherGains_19 : decode cX2_gatherGains 19 = .ok (.iload 4, 2) := by decide +kernel
theorem dX2_gatherGains_21 : decode cX2_gatherGains 21 = .ok (.iconst (-1), 1) := by decide +kernel
theorem dX2_gatherGains_22 : decode cX2_gatherGains 22 = .ok (.iastore, 1) := by decide +kernel
theorem dX2_gatherGains_23 : decode cX2_gatherGains 23 = .ok (.iinc 4 1, 3) := by decide +kernel
theorem dX2_gatherGains_26 : decode cX2_gatherGains 26 = .ok (.goto (-18), 3) := by decide +kernel
theorem dX2_gatherGains_29 : decode cX2_gatherGains 29 = .ok (.iload_n 2, 1) := by decide +kernel
theorem dX2_gatherGains_30 : decode cX2_gatherGains 30 = .ok (.istore 4, 2) := by decide +kernel
theorem dX2_gatherGains_32 : decode cX2_gatherGains 32 = .ok (.iload 4, 2) := by decide +kernel
theorem dX2_gatherGains_34 : decode cX2_gatherGains 34 = .ok (.aload_n 3, 1) := by decide +kernel
theorem dX2_gatherGains_35 : decode cX2_gatherGains 35 = .ok (.getfield 18, 3) := by decide +kernel
theorem dX2_gatherGains_38 : decode cX2_gatherGains 38 = .ok (.if_icmp .gt 17, 3) := by decide +kernel
theorem dX2_gatherGains_41 : decode cX2_gatherGains 41 = .ok (.aload_n 0, 1) := by decide +kernel
theorem dX2_gatherGains_42 : decode cX2_gatherGains 42 = .ok (.getfield 9, 3) := by decide +kernel
theorem dX2_gatherGains_45 : decode cX2_gatherGains 45 = .ok (.iload 4, 2) := by decide +kernel
theorem dX2_gatherGains_47 : decode cX2_gatherGains 47 = .ok (.iconst (-1), 1) := by decide +kernel
theorem dX2_gatherGains_48 : decode cX2_gatherGains 48 = .ok (.iastore, 1) := by decide +kernel
theorem dX2_gatherGains_49 : decode cX2_gatherGains 49 = .ok (.iinc 4 1, 3) := by decide +kernel
theorem dX2_gatherGains_52 : decode cX2_gatherGains 52 = .ok (.goto (-20), 3) := by decide +kernel
theorem dX2_gatherGains_55 : decode cX2_gatherGains 55 = .ok (.aload_n 0, 1) := by decide +kernel
theorem dX2_gatherGains_56 : decode cX2_gatherGains 56 = .ok (.getfield 9, 3) := by decide +kernel
theorem dX2_gatherGains_59 : decode cX2_gatherGains 59 = .ok (.iload_n 2, 1) := by decide +kernel
theorem dX2_gatherGains_60 : decode cX2_gatherGains 60 = .ok (.iconst 0, 1) := by decide +kernel
theorem dX2_gatherGains_61 : decode cX2_gatherGains 61 = .ok (.iastore, 1) := by decide +kernel
theorem dX2_gatherGains_62 : decode cX2_gatherGains 62 = .ok (.iload_n 2, 1) := by decide +kernel
theorem dX2_gatherGains_63 : decode cX2_gatherGains 63 = .ok (.istore 4, 2) := by decide +kernel
theorem dX2_gatherGains_65 : decode cX2_gatherGains 65 = .ok (.iload 4, 2) := by decide +kernel
theorem dX2_gatherGains_67 : decode cX2_gatherGains 67 = .ok (.aload_n 3, 1) := by decide +kernel
theorem dX2_gatherGains_68 : decode cX2_gatherGains 68 = .ok (.getfield 18, 3) := by decide +kernel
theorem dX2_gatherGains_71 : decode cX2_gatherGains 71 = .ok (.if_icmp .gt 62, 3) := by decide +kernel
theorem dX2_gatherGains_74 : decode cX2_gatherGains 74 = .ok (.aload_n 0, 1) := by decide +kernel
theorem dX2_gatherGains_75 : decode cX2_gatherGains 75 = .ok (.getfield 9, 3) := by decide +kernel
theorem dX2_gatherGains_78 : decode cX2_gatherGains 78 = .ok (.iload 4, 2) := by decide +kernel
theorem dX2_gatherGains_80 : decode cX2_gatherGains 80 = .ok (.iaload, 1) := by decide +kernel
theorem dX2_gatherGains_81 : decode cX2_gatherGains 81 = .ok (.iconst (-1), 1) := by decide +kernel
theorem dX2_gatherGains_82 : decode cX2_gatherGains 82 = .ok (.if_icmp .eq 45, 3) := by decide +kernel
theorem dX2_gatherGains_85 : decode cX2_gatherGains 85 = .ok (.aload_n 3, 1) := by decide +kernel
theorem dX2_gatherGains_86 : decode cX2_gatherGains 86 = .ok (.iload 4, 2) := by decide +kernel
theorem dX2_gatherGains_88 : decode cX2_gatherGains 88 = .ok (.invokevirtual 30, 3) := by decide +kernel
theorem dX2_gatherGains_91 : decode cX2_gatherGains 91 = .ok (.istore 5, 2) := by decide +kernel
theorem dX2_gatherGains_93 : decode cX2_gatherGains 93 = .ok (.iload 5, 2) := by decide +kernel
theorem dX2_gatherGains_95 : decode cX2_gatherGains 95 = .ok (.ifCond .ne 23, 3) := by decide +kernel
theorem dX2_gatherGains_98 : decode cX2_gatherGains 98 = .ok (.aload_n 0, 1) := by decide +kernel
theorem dX2_gatherGains_99 : decode cX2_gatherGains 99 = .ok (.iload 4, 2) := by decide +kernel
theorem dX2_gatherGains_101 : decode cX2_gatherGains 101 = .ok (.iload_n 2, 1) := by decide +kernel
theorem dX2_gatherGains_102 : decode cX2_gatherGains 102 = .ok (.iconst (-1), 1) := by decide +kernel
theorem dX2_gatherGains_103 : decode cX2_gatherGains 103 = .ok (.ixor, 1) := by decide +kernel
theorem dX2_gatherGains_104 : decode cX2_gatherGains 104 = .ok (.iand, 1) := by decide +kernel
theorem dX2_gatherGains_105 : decode cX2_gatherGains 105 = .ok (.aload_n 0, 1) := by decide +kernel
theorem dX2_gatherGains_106 : decode cX2_gatherGains 106 = .ok (.getfield 9, 3) := by decide +kernel
theorem dX2_gatherGains_109 : decode cX2_gatherGains 109 = .ok (.iload 4, 2) := by decide +kernel
theorem dX2_gatherGains_111 : decode cX2_gatherGains 111 = .ok (.iaload, 1) := by decide +kernel
theorem dX2_gatherGains_112 : decode cX2_gatherGains 112 = .ok (.invokevirtual 66, 3) := by decide +kernel
theorem dX2_gatherGains_115 : decode cX2_gatherGains 115 = .ok (.goto 12, 3) := by decide +kernel
theorem dX2_gatherGains_118 : decode cX2_gatherGains 118 = .ok (.aload_n 0, 1) := by decide +kernel
theorem dX2_gatherGains_119 : decode cX2_gatherGains 119 = .ok (.aload_n 1, 1) := by decide +kernel
theorem dX2_gatherGains_120 : decode cX2_gatherGains 120 = .ok (.iload 4, 2) := by decide +kernel
theorem dX2_gatherGains_122 : decode cX2_gatherGains 122 = .ok (.iload 5, 2) := by decide +kernel
theorem dX2_gatherGains_124 : decode cX2_gatherGains 124 = .ok (.invokevirtual 70, 3) := by decide +kernel
theorem dX2_gatherGains_127 : decode cX2_gatherGains 127 = .ok (.iinc 4 1, 3) := by decide +kernel
theorem dX2_gatherGains_130 : decode cX2_gatherGains 130 = .ok (.goto (-65), 3) := by decide +kernel
theorem dX2_gatherGains_133 : decode cX2_gatherGains 133 = .ok (.return_, 1) := by decide +kernel
theorem dX2_noteGain_0 : decode cX2_noteGain 0 = .ok (.iconst 0, 1) := by decide +kernel
theorem dX2_noteGain_1 : decode cX2_noteGain 1 = .ok (.istore_n 3, 1) := by decide +kernel
theorem dX2_noteGain_2 : decode cX2_noteGain 2 = .ok (.iload_n 3, 1) := by decide +kernel
theorem dX2_noteGain_3 : decode cX2_noteGain 3 = .ok (.bipush 12, 2) := by decide +kernel
theorem dX2_noteGain_5 : decode cX2_noteGain 5 = .ok (.if_icmp .ge 34, 3) := by decide +kernel
theorem dX2_noteGain_8 : decode cX2_noteGain 8 = .ok (.iload_n 1, 1) := by decide +kernel
theorem dX2_noteGain_9 : decode cX2_noteGain 9 = .ok (.iload_n 3, 1) := by decide +kernel
theorem dX2_noteGain_10 : decode cX2_noteGain 10 = .ok (.invokestatic 43, 3) := by decide +kernel
theorem dX2_noteGain_13 : decode cX2_noteGain 13 = .ok (.ifCond .eq 20, 3) := by decide +kernel
theorem dX2_noteGain_16 : decode cX2_noteGain 16 = .ok (.iload_n 2, 1) := by decide +kernel
theorem dX2_noteGain_17 : decode cX2_noteGain 17 = .ok (.aload_n 0, 1) := by decide +kernel
theorem dX2_noteGain_18 : decode cX2_noteGain 18 = .ok (.getfield 15, 3) := by decide +kernel
theorem dX2_noteGain_21 : decode cX2_noteGain 21 = .ok (.iload_n 3, 1) := by decide +kernel
theorem dX2_noteGain_22 : decode cX2_noteGain 22 = .ok (.iaload, 1) := by decide +kernel
theorem dX2_noteGain_23 : decode cX2_noteGain 23 = .ok (.if_icmp .le 10, 3) := by decide +kernel
theorem dX2_noteGain_26 : decode cX2_noteGain 26 = .ok (.aload_n 0, 1) := by decide +kernel
theorem dX2_noteGain_27 : decode cX2_noteGain 27 = .ok (.getfield 15, 3) := by decide +kernel
theorem dX2_noteGain_30 : decode cX2_noteGain 30 = .ok (.iload_n 3, 1) := by decide +kernel
theorem dX2_noteGain_31 : decode cX2_noteGain 31 = .ok (.iload_n 2, 1) := by decide +kernel
theorem dX2_noteGain_32 : decode cX2_noteGain 32 = .ok (.iastore, 1) := by decide +kernel
theorem dX2_noteGain_33 : decode cX2_noteGain 33 = .ok (.iinc 3 1, 3) := by decide +kernel
theorem dX2_noteGain_36 : decode cX2_noteGain 36 = .ok (.goto (-34), 3) := by decide +kernel
theorem dX2_noteGain_39 : decode cX2_noteGain 39 = .ok (.return_, 1) := by decide +kernel
theorem dX2_spreadGain_0 : decode cX2_spreadGain 0 = .ok (.iconst 0, 1) := by decide +kernel
theorem dX2_spreadGain_1 : decode cX2_spreadGain 1 = .ok (.istore 4, 2) := by decide +kernel
theorem dX2_spreadGain_3 : decode cX2_spreadGain 3 = .ok (.iload 4, 2) := by decide +kernel
theorem dX2_spreadGain_5 : decode cX2_spreadGain 5 = .ok (.aload_n 1, 1) := by decide +kernel
theorem dX2_spreadGain_6 : decode cX2_spreadGain 6 = .ok (.getfield 57, 3) := by decide +kernel
theorem dX2_spreadGain_9 : decode cX2_spreadGain 9 = .ok (.getfield 40, 3) := by decide +kernel
theorem dX2_spreadGain_12 : decode cX2_spreadGain 12 = .ok (.if_icmp .ge 50, 3) := by decide +kernel
theorem dX2_spreadGain_15 : decode cX2_spreadGain 15 = .ok (.iload_n 3, 1) := by decide +kernel
theorem dX2_spreadGain_16 : decode cX2_spreadGain 16 = .ok (.iload 4, 2) := by decide +kernel
theorem dX2_spreadGain_18 : decode cX2_spreadGain 18 = .ok (.invokestatic 43, 3) := by decide +kernel
theorem dX2_spreadGain_21 : decode cX2_spreadGain 21 = .ok (.ifCond .eq 35, 3) := by decide +kernel
theorem dX2_spreadGain_24 : decode cX2_spreadGain 24 = .ok (.aload_n 0, 1) := by decide +kernel
theorem dX2_spreadGain_25 : decode cX2_spreadGain 25 = .ok (.getfield 9, 3) := by decide +kernel
theorem dX2_spreadGain_28 : decode cX2_spreadGain 28 = .ok (.iload_n 2, 1) := by decide +kernel
theorem dX2_spreadGain_29 : decode cX2_spreadGain 29 = .ok (.iconst 1, 1) := by decide +kernel
theorem dX2_spreadGain_30 : decode cX2_spreadGain 30 = .ok (.iload 4, 2) := by decide +kernel
theorem dX2_spreadGain_32 : decode cX2_spreadGain 32 = .ok (.ishl, 1) := by decide +kernel
theorem dX2_spreadGain_33 : decode cX2_spreadGain 33 = .ok (.ior, 1) := by decide +kernel
theorem dX2_spreadGain_34 : decode cX2_spreadGain 34 = .ok (.aload_n 0, 1) := by decide +kernel
theorem dX2_spreadGain_35 : decode cX2_spreadGain 35 = .ok (.getfield 9, 3) := by decide +kernel
theorem dX2_spreadGain_38 : decode cX2_spreadGain 38 = .ok (.iload_n 2, 1) := by decide +kernel
theorem dX2_spreadGain_39 : decode cX2_spreadGain 39 = .ok (.iaload, 1) := by decide +kernel
theorem dX2_spreadGain_40 : decode cX2_spreadGain 40 = .ok (.aload_n 1, 1) := by decide +kernel
theorem dX2_spreadGain_41 : decode cX2_spreadGain 41 = .ok (.getfield 74, 3) := by decide +kernel
theorem dX2_spreadGain_44 : decode cX2_spreadGain 44 = .ok (.iconst 0, 1) := by decide +kernel
theorem dX2_spreadGain_45 : decode cX2_spreadGain 45 = .ok (.iaload, 1) := by decide +kernel
theorem dX2_spreadGain_46 : decode cX2_spreadGain 46 = .ok (.iadd, 1) := by decide +kernel
theorem dX2_spreadGain_47 : decode cX2_spreadGain 47 = .ok (.aload_n 1, 1) := by decide +kernel
theorem dX2_spreadGain_48 : decode cX2_spreadGain 48 = .ok (.getfield 77, 3) := by decide +kernel
theorem dX2_spreadGain_51 : decode cX2_spreadGain 51 = .ok (.iload 4, 2) := by decide +kernel
theorem dX2_spreadGain_53 : decode cX2_spreadGain 53 = .ok (.iaload, 1) := by decide +kernel
theorem dX2_spreadGain_54 : decode cX2_spreadGain 54 = .ok (.iadd, 1) := by decide +kernel
theorem dX2_spreadGain_55 : decode cX2_spreadGain 55 = .ok (.iastore, 1) := by decide +kernel
theorem dX2_spreadGain_56 : decode cX2_spreadGain 56 = .ok (.iinc 4 1, 3) := by decide +kernel
theorem dX2_spreadGain_59 : decode cX2_spreadGain 59 = .ok (.goto (-56), 3) := by decide +kernel
theorem dX2_spreadGain_62 : decode cX2_spreadGain 62 = .ok (.return_, 1) := by decide +kernel
theorem dX3_init_0 : decode cX3_init 0 = .ok (.aload_n 0, 1) := by decide +kernel
theorem dX3_init_1 : decode cX3_init 1 = .ok (.invokespecial 3, 3) := by decide +kernel
theorem dX3_init_4 : decode cX3_init 4 = .ok (.aload_n 0, 1) := by decide +kernel
theorem dX3_init_5 : decode cX3_init 5 = .ok (.iconst (-1), 1) := by decide +kernel
theorem dX3_init_6 : decode cX3_init 6 = .ok (.putfield 9, 3) := by decide +kernel
theorem dX3_init_9 : decode cX3_init 9 = .ok (.aload_n 0, 1) := by decide +kernel
theorem dX3_init_10 : decode cX3_init 10 = .ok (.bipush 24, 2) := by decide +kernel
theorem dX3_init_12 : decode cX3_init 12 = .ok (.newarray .int, 2) := by decide +kernel
theorem dX3_init_14 : decode cX3_init 14 = .ok (.putfield 15, 3) := by decide +kernel
theorem dX3_init_17 : decode cX3_init 17 = .ok (.return_, 1) := by decide +kernel
theorem dX3_clear_0 : decode cX3_clear 0 = .ok (.aload_n 0, 1) := by decide +kernel
theorem dX3_clear_1 : decode cX3_clear 1 = .ok (.iload_n 1, 1) := by decide +kernel
theorem dX3_clear_2 : decode cX3_clear 2 = .ok (.putfield 9, 3) := by decide +kernel
theorem dX3_clear_5 : decode cX3_clear 5 = .ok (.aload_n 0, 1) := by decide +kernel
theorem dX3_clear_6 : decode cX3_clear 6 = .ok (.iload_n 2, 1) := by decide +kernel
theorem dX3_clear_7 : decode cX3_clear 7 = .ok (.putfield 19, 3) := by decide +kernel
theorem dX3_clear_10 : decode cX3_clear 10 = .ok (.iconst 0, 1) := by decide +kernel
theorem dX3_clear_11 : decode cX3_clear 11 = .ok (.istore_n 3, 1) := by decide +kernel
theorem dX3_clear_12 : decode cX3_clear 12 = .ok (.iload_n 3, 1) := by decide +kernel
theorem dX3_clear_13 : decode cX3_clear 13 = .ok (.bipush 24, 2) := by decide +kernel
theorem dX3_clear_15 : decode cX3_clear 15 = .ok (.if_icmp .ge 16, 3) := by decide +kernel
theorem dX3_clear_18 : decode cX3_clear 18 = .ok (.aload_n 0, 1) := by decide +kernel
theorem dX3_clear_19 : decode cX3_clear 19 = .ok (.getfield 15, 3) := by decide +kernel
theorem dX3_clear_22 : decode cX3_clear 22 = .ok (.iload_n 3, 1) := by decide +kernel
theorem dX3_clear_23 : decode cX3_clear 23 = .ok (.iconst 0, 1) := by decide +kernel
theorem dX3_clear_24 : decode cX3_clear 24 = .ok (.iastore, 1) := by decide +kernel
theorem dX3_clear_25 : decode cX3_clear 25 = .ok (.iinc 3 1, 3) := by decide +kernel
theorem dX3_clear_28 : decode cX3_clear 28 = .ok (.goto (-16), 3) := by decide +kernel
theorem dX3_clear_31 : decode cX3_clear 31 = .ok (.return_, 1) := by decide +kernel
theorem dX3_become_0 : decode cX3_become 0 = .ok (.aload_n 0, 1) := by decide +kernel
theorem dX3_become_1 : decode cX3_become 1 = .ok (.aload_n 1, 1) := by decide +kernel
theorem dX3_become_2 : decode cX3_become 2 = .ok (.getfield 9, 3) := by decide +kernel
theorem dX3_become_5 : decode cX3_become 5 = .ok (.putfield 9, 3) := by decide +kernel
theorem dX3_become_8 : decode cX3_become 8 = .ok (.aload_n 0, 1) := by decide +kernel
theorem dX3_become_9 : decode cX3_become 9 = .ok (.aload_n 1, 1) := by decide +kernel
theorem dX3_become_10 : decode cX3_become 10 = .ok (.getfield 19, 3) := by decide +kernel
theorem dX3_become_13 : decode cX3_become 13 = .ok (.putfield 19, 3) := by decide +kernel
theorem dX3_become_16 : decode cX3_become 16 = .ok (.aload_n 1, 1) := by decide +kernel
theorem dX3_become_17 : decode cX3_become 17 = .ok (.getfield 15, 3) := by decide +kernel
theorem dX3_become_20 : decode cX3_become 20 = .ok (.iconst 0, 1) := by decide +kernel
theorem dX3_become_21 : decode cX3_become 21 = .ok (.aload_n 0, 1) := by decide +kernel
theorem dX3_become_22 : decode cX3_become 22 = .ok (.getfield 15, 3) := by decide +kernel
theorem dX3_become_25 : decode cX3_become 25 = .ok (.iconst 0, 1) := by decide +kernel
theorem dX3_become_26 : decode cX3_become 26 = .ok (.bipush 24, 2) := by decide +kernel
theorem dX3_become_28 : decode cX3_become 28 = .ok (.invokestatic 22, 3) := by decide +kernel
theorem dX3_become_31 : decode cX3_become 31 = .ok (.return_, 1) := by decide +kernel
theorem dX3_hasPlace_0 : decode cX3_hasPlace 0 = .ok (.iload_n 1, 1) := by decide +kernel
theorem dX3_hasPlace_1 : decode cX3_hasPlace 1 = .ok (.iconst 0, 1) := by decide +kernel
theorem dX3_hasPlace_2 : decode cX3_hasPlace 2 = .ok (.aload_n 0, 1) := by decide +kernel
theorem dX3_hasPlace_3 : decode cX3_hasPlace 3 = .ok (.getfield 19, 3) := by decide +kernel
theorem dX3_hasPlace_6 : decode cX3_hasPlace 6 = .ok (.iconst 1, 1) := by decide +kernel
theorem dX3_hasPlace_7 : decode cX3_hasPlace 7 = .ok (.isub, 1) := by decide +kernel
theorem dX3_hasPlace_8 : decode cX3_hasPlace 8 = .ok (.invokestatic 28, 3) := by decide +kernel
theorem dX3_hasPlace_11 : decode cX3_hasPlace 11 = .ok (.ireturn, 1) := by decide +kernel
theorem dX3_hasPlaces_0 : decode cX3_hasPlaces 0 = .ok (.iload_n 1, 1) := by decide +kernel
theorem dX3_hasPlaces_1 : decode cX3_hasPlaces 1 = .ok (.iconst 0, 1) := by decide +kernel
theorem dX3_hasPlaces_2 : decode cX3_hasPlaces 2 = .ok (.aload_n 0, 1) := by decide +kernel
theorem dX3_hasPlaces_3 : decode cX3_hasPlaces 3 = .ok (.getfield 19, 3) := by decide +kernel
theorem dX3_hasPlaces_6 : decode cX3_hasPlaces 6 = .ok (.invokestatic 28, 3) := by decide +kernel
theorem dX3_hasPlaces_9 : decode cX3_hasPlaces 9 = .ok (.ifCond .eq 21, 3) := by decide +kernel
theorem dX3_hasPlaces_12 : decode cX3_hasPlaces 12 = .ok (.iload_n 2, 1) := by decide +kernel
theorem dX3_hasPlaces_13 : decode cX3_hasPlaces 13 = .ok (.iconst 0, 1) := by decide +kernel
theorem dX3_hasPlaces_14 : decode cX3_hasPlaces 14 = .ok (.aload_n 0, 1) := by decide +kernel
theorem dX3_hasPlaces_15 : decode cX3_hasPlaces 15 = .ok (.getfield 19, 3) := by decide +kernel
theorem dX3_hasPlaces_18 : decode cX3_hasPlaces 18 = .ok (.iload_n 1, 1) := by decide +kernel
theorem dX3_hasPlaces_19 : decode cX3_hasPlaces 19 = .ok (.isub, 1) := by decide +kernel
theorem dX3_hasPlaces_20 : decode cX3_hasPlaces 20 = .ok (.invokestatic 28, 3) := by decide +kernel
theorem dX3_hasPlaces_23 : decode cX3_hasPlaces 23 = .ok (.ifCond .eq 7, 3) := by decide +kernel
theorem dX3_hasPlaces_26 : decode cX3_hasPlaces 26 = .ok (.iconst 1, 1) := by decide +kernel
theorem dX3_hasPlaces_27 : decode cX3_hasPlaces 27 = .ok (.goto 4, 3) := by decide +kernel
theorem dX3_hasPlaces_30 : decode cX3_hasPlaces 30 = .ok (.iconst 0, 1) := by decide +kernel
theorem dX3_hasPlaces_31 : decode cX3_hasPlaces 31 = .ok (.ireturn, 1) := by decide +kernel
theorem dX4_init_0 : decode cX4_init 0 = .ok (.aload_n 0, 1) := by decide +kernel
theorem dX4_init_1 : decode cX4_init 1 = .ok (.invokespecial 3, 3) := by decide +kernel
theorem dX4_init_4 : decode cX4_init 4 = .ok (.aload_n 0, 1) := by decide +kernel
theorem dX4_init_5 : decode cX4_init 5 = .ok (.iconst (-1), 1) := by decide +kernel
theorem dX4_init_6 : decode cX4_init 6 = .ok (.putfield 9, 3) := by decide +kernel
theorem dX4_init_9 : decode cX4_init 9 = .ok (.return_, 1) := by decide +kernel
theorem dX4_begin_0 : decode cX4_begin 0 = .ok (.aload_n 0, 1) := by decide +kernel
theorem dX4_begin_1 : decode cX4_begin 1 = .ok (.iload_n 1, 1) := by decide +kernel
theorem dX4_begin_2 : decode cX4_begin 2 = .ok (.putfield 15, 3) := by decide +kernel
theorem dX4_begin_5 : decode cX4_begin 5 = .ok (.aload_n 0, 1) := by decide +kernel
theorem dX4_begin_6 : decode cX4_begin 6 = .ok (.iconst (-1), 1) := by decide +kernel
theorem dX4_begin_7 : decode cX4_begin 7 = .ok (.putfield 9, 3) := by decide +kernel
theorem dX4_begin_10 : decode cX4_begin 10 = .ok (.aload_n 0, 1) := by decide +kernel
theorem dX4_begin_11 : decode cX4_begin 11 = .ok (.iconst 0, 1) := by decide +kernel
theorem dX4_begin_12 : decode cX4_begin 12 = .ok (.putfield 18, 3) := by decide +kernel
theorem dX4_begin_15 : decode cX4_begin 15 = .ok (.aload_n 0, 1) := by decide +kernel
theorem dX4_begin_16 : decode cX4_begin 16 = .ok (.iconst 0, 1) := by decide +kernel
theorem dX4_begin_17 : decode cX4_begin 17 = .ok (.putfield 21, 3) := by decide +kernel
theorem dX4_begin_20 : decode cX4_begin 20 = .ok (.return_, 1) := by decide +kernel
theorem dX4_become_0 : decode cX4_become 0 = .ok (.aload_n 0, 1) := by decide +kernel
theorem dX4_become_1 : decode cX4_become 1 = .ok (.aload_n 1, 1) := by decide +kernel
theorem dX4_become_2 : decode cX4_become 2 = .ok (.getfield 15, 3) := by decide +kernel
theorem dX4_become_5 : decode cX4_become 5 = .ok (.putfield 15, 3) := by decide +kernel
theorem dX4_become_8 : decode cX4_become 8 = .ok (.aload_n 0, 1) := by decide +kernel
theorem dX4_become_9 : decode cX4_become 9 = .ok (.aload_n 1, 1) := by decide +kernel
theorem dX4_become_10 : decode cX4_become 10 = .ok (.getfield 9, 3) := by decide +kernel
theorem dX4_become_13 : decode cX4_become 13 = .ok (.putfield 9, 3) := by decide +kernel
theorem dX4_become_16 : decode cX4_become 16 = .ok (.aload_n 0, 1) := by decide +kernel
theorem dX4_become_17 : decode cX4_become 17 = .ok (.aload_n 1, 1) := by decide +kernel
theorem dX4_become_18 : decode cX4_become 18 = .ok (.getfield 18, 3) := by decide +kernel
theorem dX4_become_21 : decode cX4_become 21 = .ok (.putfield 18, 3) := by decide +kernel
theorem dX4_become_24 : decode cX4_become 24 = .ok (.aload_n 0, 1) := by decide +kernel
theorem dX4_become_25 : decode cX4_become 25 = .ok (.aload_n 1, 1) := by decide +kernel
theorem dX4_become_26 : decode cX4_become 26 = .ok (.getfield 21, 3) := by decide +kernel
theorem dX4_become_29 : decode cX4_become 29 = .ok (.putfield 21, 3) := by decide +kernel
theorem dX4_become_32 : decode cX4_become 32 = .ok (.return_, 1) := by decide +kernel
theorem dX4_sitsNow_0 : decode cX4_sitsNow 0 = .ok (.aload_n 0, 1) := by decide +kernel
theorem dX4_sitsNow_1 : decode cX4_sitsNow 1 = .ok (.getfield 9, 3) := by decide +kernel
theorem dX4_sitsNow_4 : decode cX4_sitsNow 4 = .ok (.ifCond .lt 7, 3) := by decide +kernel
theorem dX4_sitsNow_7 : decode cX4_sitsNow 7 = .ok (.iconst 1, 1) := by decide +kernel
theorem dX4_sitsNow_8 : decode cX4_sitsNow 8 = .ok (.goto 4, 3) := by decide +kernel
theorem dX4_sitsNow_11 : decode cX4_sitsNow 11 = .ok (.iconst 0, 1) := by decide +kernel
theorem dX4_sitsNow_12 : decode cX4_sitsNow 12 = .ok (.ireturn, 1) := by decide +kernel
theorem dX4_isOf_0 : decode cX4_isOf 0 = .ok (.getstatic 24, 3) := by decide +kernel
theorem dX4_isOf_3 : decode cX4_isOf 3 = .ok (.iload_n 1, 1) := by decide +kernel
theorem dX4_isOf_4 : decode cX4_isOf 4 = .ok (.iaload, 1) := by decide +kernel
theorem dX4_isOf_5 : decode cX4_isOf 5 = .ok (.aload_n 0, 1) := by decide +kernel
theorem dX4_isOf_6 : decode cX4_isOf 6 = .ok (.getfield 15, 3) := by decide +kernel
theorem dX4_isOf_9 : decode cX4_isOf 9 = .ok (.ishr, 1) := by decide +kernel
theorem dX4_isOf_10 : decode cX4_isOf 10 = .ok (.iconst 1, 1) := by decide +kernel
theorem dX4_isOf_11 : decode cX4_isOf 11 = .ok (.iand, 1) := by decide +kernel
theorem dX4_isOf_12 : decode cX4_isOf 12 = .ok (.iconst 1, 1) := by decide +kernel
theorem dX4_isOf_13 : decode cX4_isOf 13 = .ok (.if_icmp .ne 7, 3) := by decide +kernel
theorem dX4_isOf_16 : decode cX4_isOf 16 = .ok (.iconst 1, 1) := by decide +kernel
theorem dX4_isOf_17 : decode cX4_isOf 17 = .ok (.goto 4, 3) := by decide +kernel
theorem dX4_isOf_20 : decode cX4_isOf 20 = .ok (.iconst 0, 1) := by decide +kernel
theorem dX4_isOf_21 : decode cX4_isOf 21 = .ok (.ireturn, 1) := by decide +kernel
theorem dX4_worth_0 : decode cX4_worth 0 = .ok (.aload_n 0, 1) := by decide +kernel
theorem dX4_worth_1 : decode cX4_worth 1 = .ok (.getfield 15, 3) := by decide +kernel
theorem dX4_worth_4 : decode cX4_worth 4 = .ok (.tableswitch 74 1 5 #[36, 54, 44, 62, 72], 36) := by decide +kernel
theorem dX4_worth_40 : decode cX4_worth 40 = .ok (.aload_n 0, 1) := by decide +kernel
theorem dX4_worth_41 : decode cX4_worth 41 = .ok (.getfield 21, 3) := by decide +kernel
theorem dX4_worth_44 : decode cX4_worth 44 = .ok (.bipush 6, 2) := by decide +kernel
theorem dX4_worth_46 : decode cX4_worth 46 = .ok (.iadd, 1) := by decide +kernel
theorem dX4_worth_47 : decode cX4_worth 47 = .ok (.ireturn, 1) := by decide +kernel
theorem dX4_worth_48 : decode cX4_worth 48 = .ok (.iconst 2, 1) := by decide +kernel
theorem dX4_worth_49 : decode cX4_worth 49 = .ok (.aload_n 0, 1) := by decide +kernel
theorem dX4_worth_50 : decode cX4_worth 50 = .ok (.getfield 21, 3) := by decide +kernel
theorem dX4_worth_53 : decode cX4_worth 53 = .ok (.bipush 6, 2) := by decide +kernel
theorem dX4_worth_55 : decode cX4_worth 55 = .ok (.iadd, 1) := by decide +kernel
theorem dX4_worth_56 : decode cX4_worth 56 = .ok (.imul, 1) := by decide +kernel
theorem dX4_worth_57 : decode cX4_worth 57 = .ok (.ireturn, 1) := by decide +kernel
theorem dX4_worth_58 : decode cX4_worth 58 = .ok (.bipush 99, 2) := by decide +kernel
theorem dX4_worth_60 : decode cX4_worth 60 = .ok (.aload_n 0, 1) := by decide +kernel
theorem dX4_worth_61 : decode cX4_worth 61 = .ok (.getfield 21, 3) := by decide +kernel
theorem dX4_worth_64 : decode cX4_worth 64 = .ok (.isub, 1) := by decide +kernel
theorem dX4_worth_65 : decode cX4_worth 65 = .ok (.ireturn, 1) := by decide +kernel
theorem dX4_worth_66 : decode cX4_worth 66 = .ok (.bipush 99, 2) := by decide +kernel
theorem dX4_worth_68 : decode cX4_worth 68 = .ok (.aload_n 0, 1) := by decide +kernel
theorem dX4_worth_69 : decode cX4_worth 69 = .ok (.getfield 21, 3) := by decide +kernel
theorem dX4_worth_72 : decode cX4_worth 72 = .ok (.isub, 1) := by decide +kernel
theorem dX4_worth_73 : decode cX4_worth 73 = .ok (.iconst 4, 1) := by decide +kernel
theorem dX4_worth_74 : decode cX4_worth 74 = .ok (.isub, 1) := by decide +kernel
theorem dX4_worth_75 : decode cX4_worth 75 = .ok (.ireturn, 1) := by decide +kernel
theorem dX4_worth_76 : decode cX4_worth 76 = .ok (.iconst 3, 1) := by decide +kernel
theorem dX4_worth_77 : decode cX4_worth 77 = .ok (.ireturn, 1) := by decide +kernel
theorem dX4_worth_78 : decode cX4_worth 78 = .ok (.aload_n 0, 1) := by decide +kernel
theorem dX4_worth_79 : decode cX4_worth 79 = .ok (.getfield 21, 3) := by decide +kernel
theorem dX4_worth_82 : decode cX4_worth 82 = .ok (.ireturn, 1) := by decide +kernel
theorem dX4_share_0 : decode cX4_share 0 = .ok (.aload_n 0, 1) := by decide +kernel
theorem dX4_share_1 : decode cX4_share 1 = .ok (.getfield 15, 3) := by decide +kernel
theorem dX4_share_4 : decode cX4_share 4 = .ok (.tableswitch 52 1 4 #[32, 42, 36, 46], 32) := by decide +kernel
theorem dX4_share_36 : decode cX4_share 36 = .ok (.iconst 2, 1) := by decide +kernel
theorem dX4_share_37 : decode cX4_share 37 = .ok (.iload_n 1, 1) := by decide +kernel
theorem dX4_share_38 : decode cX4_share 38 = .ok (.imul, 1) := by decide +kernel
theorem dX4_share_39 : decode cX4_share 39 = .ok (.ireturn, 1) := by decide +kernel
theorem dX4_share_40 : decode cX4_share 40 = .ok (.iconst 2, 1) := by decide +kernel
theorem dX4_share_41 : decode cX4_share 41 = .ok (.iload_n 1, 1) := by decide +kernel
theorem dX4_share_42 : decode cX4_share 42 = .ok (.imul, 1) := by decide +kernel
theorem dX4_share_43 : decode cX4_share 43 = .ok (.iconst 1, 1) := by decide +kernel
theorem dX4_share_44 : decode cX4_share 44 = .ok (.iadd, 1) := by decide +kernel
theorem dX4_share_45 : decode cX4_share 45 = .ok (.ireturn, 1) := by decide +kernel
theorem dX4_share_46 : decode cX4_share 46 = .ok (.iload_n 1, 1) := by decide +kernel
theorem dX4_share_47 : decode cX4_share 47 = .ok (.iconst 2, 1) := by decide +kernel
theorem dX4_share_48 : decode cX4_share 48 = .ok (.isub, 1) := by decide +kernel
theorem dX4_share_49 : decode cX4_share 49 = .ok (.ireturn, 1) := by decide +kernel
theorem dX4_share_50 : decode cX4_share 50 = .ok (.iload_n 1, 1) := by decide +kernel
theorem dX4_share_51 : decode cX4_share 51 = .ok (.iconst 2, 1) := by decide +kernel
theorem dX4_share_52 : decode cX4_share 52 = .ok (.isub, 1) := by decide +kernel
theorem dX4_share_53 : decode cX4_share 53 = .ok (.iconst 2, 1) := by decide +kernel
theorem dX4_share_54 : decode cX4_share 54 = .ok (.idiv, 1) := by decide +kernel
theorem dX4_share_55 : decode cX4_share 55 = .ok (.ireturn, 1) := by decide +kernel
theorem dX4_share_56 : decode cX4_share 56 = .ok (.iload_n 1, 1) := by decide +kernel
theorem dX4_share_57 : decode cX4_share 57 = .ok (.ireturn, 1) := by decide +kernel
theorem dX5_init_0 : decode cX5_init 0 = .ok (.aload_n 0, 1) := by decide +kernel
theorem dX5_init_1 : decode cX5_init 1 = .ok (.invokespecial 1, 3) := by decide +kernel
theorem dX5_init_4 : decode cX5_init 4 = .ok (.aload_n 0, 1) := by decide +kernel
theorem dX5_init_5 : decode cX5_init 5 = .ok (.new 7, 3) := by decide +kernel
theorem dX5_init_8 : decode cX5_init 8 = .ok (.dup, 1) := by decide +kernel
theorem dX5_init_9 : decode cX5_init 9 = .ok (.invokespecial 9, 3) := by decide +kernel
theorem dX5_init_12 : decode cX5_init 12 = .ok (.putfield 10, 3) := by decide +kernel
theorem dX5_init_15 : decode cX5_init 15 = .ok (.aload_n 0, 1) := by decide +kernel
theorem dX5_init_16 : decode cX5_init 16 = .ok (.new 16, 3) := by decide +kernel
theorem dX5_init_19 : decode cX5_init 19 = .ok (.dup, 1) := by decide +kernel
theorem dX5_init_20 : decode cX5_init 20 = .ok (.invokespecial 18, 3) := by decide +kernel
theorem dX5_init_23 : decode cX5_init 23 = .ok (.putfield 19, 3) := by decide +kernel
theorem dX5_init_26 : decode cX5_init 26 = .ok (.return_, 1) := by decide +kernel
theorem dX6_init_0 : decode cX6_init 0 = .ok (.aload_n 0, 1) := by decide +kernel
theorem dX6_init_1 : decode cX6_init 1 = .ok (.invokespecial 3, 3) := by decide +kernel
theorem dX6_init_4 : decode cX6_init 4 = .ok (.aload_n 0, 1) := by decide +kernel
theorem dX6_init_5 : decode cX6_init 5 = .ok (.bipush 96, 2) := by decide +kernel
theorem dX6_init_7 : decode cX6_init 7 = .ok (.newarray .int, 2) := by decide +kernel
theorem dX6_init_9 : decode cX6_init 9 = .ok (.putfield 9, 3) := by decide +kernel
theorem dX6_init_12 : decode cX6_init 12 = .ok (.aload_n 0, 1) := by decide +kernel
theorem dX6_init_13 : decode cX6_init 13 = .ok (.bipush 96, 2) := by decide +kernel
theorem dX6_init_15 : decode cX6_init 15 = .ok (.newarray .int, 2) := by decide +kernel
theorem dX6_init_17 : decode cX6_init 17 = .ok (.putfield 15, 3) := by decide +kernel
theorem dX6_init_20 : decode cX6_init 20 = .ok (.aload_n 0, 1) := by decide +kernel
theorem dX6_init_21 : decode cX6_init 21 = .ok (.bipush 96, 2) := by decide +kernel
theorem dX6_init_23 : decode cX6_init 23 = .ok (.newarray .int, 2) := by decide +kernel
theorem dX6_init_25 : decode cX6_init 25 = .ok (.putfield 18, 3) := by decide +kernel
theorem dX6_init_28 : decode cX6_init 28 = .ok (.return_, 1) := by decide +kernel
theorem dX6_append_0 : decode cX6_append 0 = .ok (.bipush 24, 2) := by decide +kernel
theorem dX6_append_2 : decode cX6_append 2 = .ok (.istore_n 2, 1) := by decide +kernel
theorem dX6_append_3 : decode cX6_append 3 = .ok (.iload_n 2, 1) := by decide +kernel
theorem dX6_append_4 : decode cX6_append 4 = .ok (.ifCond .lt 44, 3) := by decide +kernel
theorem dX6_append_7 : decode cX6_append 7 = .ok (.aload_n 0, 1) := by decide +kernel
theorem dX6_append_8 : decode cX6_append 8 = .ok (.getfield 21, 3) := by decide +kernel
theorem dX6_append_11 : decode cX6_append 11 = .ok (.bipush 96, 2) := by decide +kernel
theorem dX6_append_13 : decode cX6_append 13 = .ok (.if_icmp .ge 35, 3) := by decide +kernel
theorem dX6_append_16 : decode cX6_append 16 = .ok (.aload_n 0, 1) := by decide +kernel
theorem dX6_append_17 : decode cX6_append 17 = .ok (.getfield 9, 3) := by decide +kernel
theorem dX6_append_20 : decode cX6_append 20 = .ok (.aload_n 0, 1) := by decide +kernel
theorem dX6_append_21 : decode cX6_append 21 = .ok (.getfield 21, 3) := by decide +kernel
theorem dX6_append_24 : decode cX6_append 24 = .ok (.iload_n 1, 1) := by decide +kernel
theorem dX6_append_25 : decode cX6_append 25 = .ok (.iload_n 2, 1) := by decide +kernel
theorem dX6_append_26 : decode cX6_append 26 = .ok (.ishr, 1) := by decide +kernel
theorem dX6_append_27 : decode cX6_append 27 = .ok (.sipush 255, 3) := by decide +kernel
theorem dX6_append_30 : decode cX6_append 30 = .ok (.iand, 1) := by decide +kernel
theorem dX6_append_31 : decode cX6_append 31 = .ok (.iastore, 1) := by decide +kernel
theorem dX6_append_32 : decode cX6_append 32 = .ok (.aload_n 0, 1) := by decide +kernel
theorem dX6_append_33 : decode cX6_append 33 = .ok (.dup, 1) := by decide +kernel
theorem dX6_append_34 : decode cX6_append 34 = .ok (.getfield 21, 3) := by decide +kernel
theorem dX6_append_37 : decode cX6_append 37 = .ok (.iconst 1, 1) := by decide +kernel
theorem dX6_append_38 : decode cX6_append 38 = .ok (.iadd, 1) := by decide +kernel
theorem dX6_append_39 : decode cX6_append 39 = .ok (.putfield 21, 3) := by decide +kernel
theorem dX6_append_42 : decode cX6_append 42 = .ok (.iinc 2 (-8), 3) := by decide +kernel
theorem dX6_append_45 : decode cX6_append 45 = .ok (.goto (-42), 3) := by decide +kernel
theorem dX6_append_48 : decode cX6_append 48 = .ok (.return_, 1) := by decide +kernel
theorem dX6_lawRead_0 : decode cX6_lawRead 0 = .ok (.aload_n 0, 1) := by decide +kernel
theorem dX6_lawRead_1 : decode cX6_lawRead 1 = .ok (.getfield 25, 3) := by decide +kernel
theorem dX6_lawRead_4 : decode cX6_lawRead 4 = .ok (.newarray .int, 2) := by decide +kernel
theorem dX6_lawRead_6 : decode cX6_lawRead 6 = .ok (.astore_n 1, 1) := by decide +kernel
theorem dX6_lawRead_7 : decode cX6_lawRead 7 = .ok (.aload_n 0, 1) := by decide +kernel
theorem dX6_lawRead_8 : decode cX6_lawRead 8 = .ok (.getfield 15, 3) := by decide +kernel
theorem dX6_lawRead_11 : decode cX6_lawRead 11 = .ok (.iconst 0, 1) := by decide +kernel
theorem dX6_lawRead_12 : decode cX6_lawRead 12 = .ok (.aload_n 1, 1) := by decide +kernel
theorem dX6_lawRead_13 : decode cX6_lawRead 13 = .ok (.iconst 0, 1) := by decide +kernel
theorem dX6_lawRead_14 : decode cX6_lawRead 14 = .ok (.aload_n 0, 1) := by decide +kernel
theorem dX6_lawRead_15 : decode cX6_lawRead 15 = .ok (.getfield 25, 3) := by decide +kernel
theorem dX6_lawRead_18 : decode cX6_lawRead 18 = .ok (.invokestatic 28, 3) := by decide +kernel
theorem dX6_lawRead_21 : decode cX6_lawRead 21 = .ok (.new 34, 3) := by decide +kernel
theorem dX6_lawRead_24 : decode cX6_lawRead 24 = .ok (.dup, 1) := by decide +kernel
theorem dX6_lawRead_25 : decode cX6_lawRead 25 = .ok (.aload_n 0, 1) := by decide +kernel
theorem dX6_lawRead_26 : decode cX6_lawRead 26 = .ok (.getfield 36, 3) := by decide +kernel
theorem dX6_lawRead_29 : decode cX6_lawRead 29 = .ok (.aload_n 0, 1) := by decide +kernel
theorem dX6_lawRead_30 : decode cX6_lawRead 30 = .ok (.getfield 39, 3) := by decide +kernel
theorem dX6_lawRead_33 : decode cX6_lawRead 33 = .ok (.aload_n 1, 1) := by decide +kernel
theorem dX6_lawRead_34 : decode cX6_lawRead 34 = .ok (.invokespecial 42, 3) := by decide +kernel
theorem dX6_lawRead_37 : decode cX6_lawRead 37 = .ok (.areturn, 1) := by decide +kernel
theorem dX6_parse_0 : decode cX6_parse 0 = .ok (.aload_n 0, 1) := by decide +kernel
theorem dX6_parse_1 : decode cX6_parse 1 = .ok (.invokevirtual 45, 3) := by decide +kernel
theorem dX6_parse_4 : decode cX6_parse 4 = .ok (.aload_n 0, 1) := by decide +kernel
theorem dX6_parse_5 : decode cX6_parse 5 = .ok (.invokevirtual 48, 3) := by decide +kernel
theorem dX6_parse_8 : decode cX6_parse 8 = .ok (.aload_n 0, 1) := by decide +kernel
theorem dX6_parse_9 : decode cX6_parse 9 = .ok (.aload_n 0, 1) := by decide +kernel
theorem dX6_parse_10 : decode cX6_parse 10 = .ok (.invokevirtual 51, 3) := by decide +kernel
theorem dX6_parse_13 : decode cX6_parse 13 = .ok (.putfield 36, 3) := by decide +kernel
theorem dX6_parse_16 : decode cX6_parse 16 = .ok (.aload_n 0, 1) := by decide +kernel
theorem dX6_parse_17 : decode cX6_parse 17 = .ok (.getfield 36, 3) := by decide +kernel
theorem dX6_parse_20 : decode cX6_parse 20 = .ok (.ifCond .ge 8, 3) := by decide +kernel
theorem dX6_parse_23 : decode cX6_parse 23 = .ok (.aload_n 0, 1) := by decide +kernel
theorem dX6_parse_24 : decode cX6_parse 24 = .ok (.getfield 55, 3) := by decide +kernel
theorem dX6_parse_27 : decode cX6_parse 27 = .ok (.ireturn, 1) := by decide +kernel
theorem dX6_parse_28 : decode cX6_parse 28 = .ok (.iconst 0, 1) := by decide +kernel
theorem dX6_parse_29 : decode cX6_parse 29 = .ok (.istore_n 1, 1) := by decide +kernel
theorem dX6_parse_30 : decode cX6_parse 30 = .ok (.iload_n 1, 1) := by decide +kernel
theorem dX6_parse_31 : decode cX6_parse 31 = .ok (.bipush 96, 2) := by decide +kernel
theorem dX6_parse_33 : decode cX6_parse 33 = .ok (.if_icmp .gt 52, 3) := by decide +kernel
theorem dX6_parse_36 : decode cX6_parse 36 = .ok (.aload_n 0, 1) := by decide +kernel
theorem dX6_parse_37 : decode cX6_parse 37 = .ok (.invokevirtual 48, 3) := by decide +kernel
theorem dX6_parse_40 : decode cX6_parse 40 = .ok (.aload_n 0, 1) := by decide +kernel
theorem dX6_parse_41 : decode cX6_parse 41 = .ok (.getfield 58, 3) := by decide +kernel
theorem dX6_parse_44 : decode cX6_parse 44 = .ok (.ifCond .ne 6, 3) := by decide +kernel
theorem dX6_parse_47 : decode cX6_parse 47 = .ok (.goto 38, 3) := by decide +kernel
theorem dX6_parse_50 : decode cX6_parse 50 = .ok (.aload_n 0, 1) := by decide +kernel
theorem dX6_parse_51 : decode cX6_parse 51 = .ok (.getfield 61, 3) := by decide +kernel
theorem dX6_parse_54 : decode cX6_parse 54 = .ok (.ifCond .eq 13, 3) := by decide +kernel
theorem dX6_parse_57 : decode cX6_parse 57 = .ok (.aload_n 0, 1) := by decide +kernel
theorem dX6_parse_58 : decode cX6_parse 58 = .ok (.invokevirtual 65, 3) := by decide +kernel
theorem dX6_parse_61 : decode cX6_parse 61 = .ok (.ifCond .eq 13, 3) := by decide +kernel
theorem dX6_parse_64 : decode cX6_parse 64 = .ok (.goto 15, 3) := by decide +kernel
theorem dX6_parse_67 : decode cX6_parse 67 = .ok (.aload_n 0, 1) := by decide +kernel
theorem dX6_parse_68 : decode cX6_parse 68 = .ok (.invokevirtual 69, 3) := by decide +kernel
theorem dX6_parse_71 : decode cX6_parse 71 = .ok (.ifCond .ne 8, 3) := by decide +kernel
theorem dX6_parse_74 : decode cX6_parse 74 = .ok (.aload_n 0, 1) := by decide +kernel
theorem dX6_parse_75 : decode cX6_parse 75 = .ok (.getfield 55, 3) := by decide +kernel
theorem dX6_parse_78 : decode cX6_parse 78 = .ok (.ireturn, 1) := by decide +kernel
theorem dX6_parse_79 : decode cX6_parse 79 = .ok (.iinc 1 1, 3) := by decide +kernel
theorem dX6_parse_82 : decode cX6_parse 82 = .ok (.goto (-52), 3) := by decide +kernel
theorem dX6_parse_85 : decode cX6_parse 85 = .ok (.aload_n 0, 1) := by decide +kernel
theorem dX6_parse_86 : decode cX6_parse 86 = .ok (.getfield 61, 3) := by decide +kernel
theorem dX6_parse_89 : decode cX6_parse 89 = .ok (.ifCond .ne 10, 3) := by decide +kernel
theorem dX6_parse_92 : decode cX6_parse 92 = .ok (.aload_n 0, 1) := by decide +kernel
theorem dX6_parse_93 : decode cX6_parse 93 = .ok (.getfield 72, 3) := by decide +kernel
theorem dX6_parse_96 : decode cX6_parse 96 = .ok (.ifCond .le 8, 3) := by decide +kernel
theorem dX6_parse_99 : decode cX6_parse 99 = .ok (.aload_n 0, 1) := by decide +kernel
theorem dX6_parse_100 : decode cX6_parse 100 = .ok (.getfield 21, 3) := by decide +kernel
theorem dX6_parse_103 : decode cX6_parse 103 = .ok (.ireturn, 1) := by decide +kernel
theorem dX6_parse_104 : decode cX6_parse 104 = .ok (.aload_n 0, 1) := by decide +kernel
theorem dX6_parse_105 : decode cX6_parse 105 = .ok (.iconst 0, 1) := by decide +kernel
theorem dX6_parse_106 : decode cX6_parse 106 = .ok (.invokevirtual 75, 3) := by decide +kernel
theorem dX6_parse_109 : decode cX6_parse 109 = .ok (.iconst (-1), 1) := by decide +kernel
theorem dX6_parse_110 : decode cX6_parse 110 = .ok (.ireturn, 1) := by decide +kernel
theorem dX6_begin_0 : decode cX6_begin 0 = .ok (.aload_n 0, 1) := by decide +kernel
theorem dX6_begin_1 : decode cX6_begin 1 = .ok (.iconst 0, 1) := by decide +kernel
theorem dX6_begin_2 : decode cX6_begin 2 = .ok (.putfield 58, 3) := by decide +kernel
theorem dX6_begin_5 : decode cX6_begin 5 = .ok (.aload_n 0, 1) := by decide +kernel
theorem dX6_begin_6 : decode cX6_begin 6 = .ok (.iconst 0, 1) := by decide +kernel
theorem dX6_begin_7 : decode cX6_begin 7 = .ok (.putfield 55, 3) := by decide +kernel
theorem dX6_begin_10 : decode cX6_begin 10 = .ok (.aload_n 0, 1) := by decide +kernel
theorem dX6_begin_11 : decode cX6_begin 11 = .ok (.iconst 0, 1) := by decide +kernel
theorem dX6_begin_12 : decode cX6_begin 12 = .ok (.putfield 79, 3) := by decide +kernel
theorem dX6_begin_15 : decode cX6_begin 15 = .ok (.aload_n 0, 1) := by decide +kernel
theorem dX6_begin_16 : decode cX6_begin 16 = .ok (.iconst 1, 1) := by decide +kernel
theorem dX6_begin_17 : decode cX6_begin 17 = .ok (.putfield 61, 3) := by decide +kernel
theorem dX6_begin_20 : decode cX6_begin 20 = .ok (.aload_n 0, 1) := by decide +kernel
theorem dX6_begin_21 : decode cX6_begin 21 = .ok (.iconst 0, 1) := by decide +kernel
theorem dX6_begin_22 : decode cX6_begin 22 = .ok (.putfield 25, 3) := by decide +kernel
theorem dX6_begin_25 : decode cX6_begin 25 = .ok (.aload_n 0, 1) := by decide +kernel
theorem dX6_begin_26 : decode cX6_begin 26 = .ok (.iconst 0, 1) := by decide +kernel
theorem dX6_begin_27 : decode cX6_begin 27 = .ok (.putfield 39, 3) := by decide +kernel
theorem dX6_begin_30 : decode cX6_begin 30 = .ok (.aload_n 0, 1) := by decide +kernel
theorem dX6_begin_31 : decode cX6_begin 31 = .ok (.iconst 0, 1) := by decide +kernel
theorem dX6_begin_32 : decode cX6_begin 32 = .ok (.putfield 82, 3) := by decide +kernel
theorem dX6_begin_35 : decode cX6_begin 35 = .ok (.aload_n 0, 1) := by decide +kernel
theorem dX6_begin_36 : decode cX6_begin 36 = .ok (.iconst 0, 1) := by decide +kernel
theorem dX6_begin_37 : decode cX6_begin 37 = .ok (.putfield 72, 3) := by decide +kernel
theorem dX6_begin_40 : decode cX6_begin 40 = .ok (.aload_n 0, 1) := by decide +kernel
theorem dX6_begin_41 : decode cX6_begin 41 = .ok (.iconst 0, 1) := by decide +kernel
theorem dX6_begin_42 : decode cX6_begin 42 = .ok (.putfield 85, 3) := by decide +kernel
theorem dX6_begin_45 : decode cX6_begin 45 = .ok (.return_, 1) := by decide +kernel
theorem dX6_advance_0 : decode cX6_advance 0 = .ok (.aload_n 0, 1) := by decide +kernel
theorem dX6_advance_1 : decode cX6_advance 1 = .ok (.getfield 58, 3) := by decide +kernel
theorem dX6_advance_4 : decode cX6_advance 4 = .ok (.iconst 1, 1) := by decide +kernel
theorem dX6_advance_5 : decode cX6_advance 5 = .ok (.if_icmp .eq 11, 3) := by decide +kernel
theorem dX6_advance_8 : decode cX6_advance 8 = .ok (.aload_n 0, 1) := by decide +kernel
theorem dX6_advance_9 : decode cX6_advance 9 = .ok (.getfield 58, 3) := by decide +kernel
theorem dX6_advance_12 : decode cX6_advance 12 = .ok (.iconst 2, 1) := by decide +kernel
theorem dX6_advance_13 : decode cX6_advance 13 = .ok (.if_icmp .ne 7, 3) := by decide +kernel
theorem dX6_advance_16 : decode cX6_advance 16 = .ok (.iconst 1, 1) := by decide +kernel
theorem dX6_advance_17 : decode cX6_advance 17 = .ok (.goto 4, 3) := by decide +kernel
theorem dX6_advance_20 : decode cX6_advance 20 = .ok (.iconst 0, 1) := by decide +kernel
theorem dX6_advance_21 : decode cX6_advance 21 = .ok (.istore_n 1, 1) := by decide +kernel
theorem dX6_advance_22 : decode cX6_advance 22 = .ok (.aload_n 0, 1) := by decide +kernel
theorem dX6_advance_23 : decode cX6_advance 23 = .ok (.aload_n 0, 1) := by decide +kernel
theorem dX6_advance_24 : decode cX6_advance 24 = .ok (.getfield 79, 3) := by decide +kernel
theorem dX6_advance_27 : decode cX6_advance 27 = .ok (.putfield 55, 3) := by decide +kernel
theorem dX6_advance_30 : decode cX6_advance 30 = .ok (.aload_n 0, 1) := by decide +kernel
theorem dX6_advance_31 : decode cX6_advance 31 = .ok (.getfield 55, 3) := by decide +kernel
theorem dX6_advance_34 : decode cX6_advance 34 = .ok (.aload_n 0, 1) := by decide +kernel
theorem dX6_advance_35 : decode cX6_advance 35 = .ok (.getfield 21, 3) := by decide +kernel
theorem dX6_advance_38 : decode cX6_advance 38 = .ok (.if_icmp .ge 30, 3) := by decide +kernel
theorem dX6_advance_41 : decode cX6_advance 41 = .ok (.aload_n 0, 1) := by decide +kernel
theorem dX6_advance_42 : decode cX6_advance 42 = .ok (.getfield 9, 3) := by decide +kernel
theorem dX6_advance_45 : decode cX6_advance 45 = .ok (.aload_n 0, 1) := by decide +kernel
theorem dX6_advance_46 : decode cX6_advance 46 = .ok (.getfield 55, 3) := by decide +kernel
theorem dX6_advance_49 : decode cX6_advance 49 = .ok (.iaload, 1) := by decide +kernel
theorem dX6_advance_50 : decode cX6_advance 50 = .ok (.bipush 32, 2) := by decide +kernel
theorem dX6_advance_52 : decode cX6_advance 52 = .ok (.if_icmp .ne 16, 3) := by decide +kernel
theorem dX6_advance_55 : decode cX6_advance 55 = .ok (.aload_n 0, 1) := by decide +kernel
theorem dX6_advance_56 : decode cX6_advance 56 = .ok (.dup, 1) := by decide +kernel
theorem dX6_advance_57 : decode cX6_advance 57 = .ok (.getfield 55, 3) := by decide +kernel
theorem dX6_advance_60 : decode cX6_advance 60 = .ok (.iconst 1, 1) := by decide +kernel
theorem dX6_advance_61 : decode cX6_advance 61 = .ok (.iadd, 1) := by decide +kernel
theorem dX6_advance_62 : decode cX6_advance 62 = .ok (.putfield 55, 3) := by decide +kernel
theorem dX6_advance_65 : decode cX6_advance 65 = .ok (.goto (-35), 3) := by decide +kernel
theorem dX6_advance_68 : decode cX6_advance 68 = .ok (.iload_n 1, 1) := by decide +kernel
theorem dX6_advance_69 : decode cX6_advance 69 = .ok (.ifCond .eq 18, 3) := by decide +kernel
theorem dX6_advance_72 : decode cX6_advance 72 = .ok (.aload_n 0, 1) := by decide +kernel
theorem dX6_advance_73 : decode cX6_advance 73 = .ok (.getfield 55, 3) := by decide +kernel
theorem dX6_advance_76 : decode cX6_advance 76 = .ok (.aload_n 0, 1) := by decide +kernel
theorem dX6_advance_77 : decode cX6_advance 77 = .ok (.getfield 79, 3) := by decide +kernel
theorem dX6_advance_80 : decode cX6_advance 80 = .ok (.if_icmp .ne 7, 3) := by decide +kernel
theorem dX6_advance_83 : decode cX6_advance 83 = .ok (.iconst 1, 1) := by decide +kernel
theorem dX6_advance_84 : decode cX6_advance 84 = .ok (.goto 4, 3) := by decide +kernel
theorem dX6_advance_87 : decode cX6_advance 87 = .ok (.iconst 0, 1) := by decide +kernel
theorem dX6_advance_88 : decode cX6_advance 88 = .ok (.istore_n 2, 1) := by decide +kernel
theorem dX6_advance_89 : decode cX6_advance 89 = .ok (.aload_n 0, 1) := by decide +kernel
theorem dX6_advance_90 : decode cX6_advance 90 = .ok (.aload_n 0, 1) := by decide +kernel
theorem dX6_advance_91 : decode cX6_advance 91 = .ok (.getfield 55, 3) := by decide +kernel
theorem dX6_advance_94 : decode cX6_advance 94 = .ok (.putfield 79, 3) := by decide +kernel
theorem dX6_advance_97 : decode cX6_advance 97 = .ok (.aload_n 0, 1) := by decide +kernel
theorem dX6_advance_98 : decode cX6_advance 98 = .ok (.getfield 55, 3) := by decide +kernel
theorem dX6_advance_101 : decode cX6_advance 101 = .ok (.aload_n 0, 1) := by decide +kernel
theorem dX6_advance_102 : decode cX6_advance 102 = .ok (.getfield 21, 3) := by decide +kernel
theorem dX6_advance_105 : decode cX6_advance 105 = .ok (.if_icmp .lt 9, 3) := by decide +kernel
theorem dX6_advance_108 : decode cX6_advance 108 = .ok (.aload_n 0, 1) := by decide +kernel
theorem dX6_advance_109 : decode cX6_advance 109 = .ok (.iconst 0, 1) := by decide +kernel
theorem dX6_advance_110 : decode cX6_advance 110 = .ok (.putfield 58, 3) := by decide +kernel
theorem dX6_advance_113 : decode cX6_advance 113 = .ok (.return_, 1) := by decide +kernel
theorem dX6_advance_114 : decode cX6_advance 114 = .ok (.aload_n 0, 1) := by decide +kernel
theorem dX6_advance_115 : decode cX6_advance 115 = .ok (.aload_n 0, 1) := by decide +kernel
theorem dX6_advance_116 : decode cX6_advance 116 = .ok (.getfield 9, 3) := by decide +kernel
theorem dX6_advance_119 : decode cX6_advance 119 = .ok (.aload_n 0, 1) := by decide +kernel
theorem dX6_advance_120 : decode cX6_advance 120 = .ok (.getfield 55, 3) := by decide +kernel
theorem dX6_advance_123 : decode cX6_advance 123 = .ok (.iaload, 1) := by decide +kernel
theorem dX6_advance_124 : decode cX6_advance 124 = .ok (.invokestatic 88, 3) := by decide +kernel
theorem dX6_advance_127 : decode cX6_advance 127 = .ok (.putfield 58, 3) := by decide +kernel
theorem dX6_advance_130 : decode cX6_advance 130 = .ok (.aload_n 0, 1) := by decide +kernel
theorem dX6_advance_131 : decode cX6_advance 131 = .ok (.dup, 1) := by decide +kernel
theorem dX6_advance_132 : decode cX6_advance 132 = .ok (.getfield 79, 3) := by decide +kernel
theorem dX6_advance_135 : decode cX6_advance 135 = .ok (.iconst 1, 1) := by decide +kernel
theorem dX6_advance_136 : decode cX6_advance 136 = .ok (.iadd, 1) := by decide +kernel
theorem dX6_advance_137 : decode cX6_advance 137 = .ok (.putfield 79, 3) := by decide +kernel
theorem dX6_advance_140 : decode cX6_advance 140 = .ok (.aload_n 0, 1) := by decide +kernel
theorem dX6_advance_141 : decode cX6_advance 141 = .ok (.getfield 58, 3) := by decide +kernel
theorem dX6_advance_144 : decode cX6_advance 144 = .ok (.iconst 3, 1) := by decide +kernel
theorem dX6_advance_145 : decode cX6_advance 145 = .ok (.if_icmp .eq 62, 3) := by decide +kernel
theorem dX6_advance_148 : decode cX6_advance 148 = .ok (.aload_n 0, 1) := by decide +kernel
theorem dX6_advance_149 : decode cX6_advance 149 = .ok (.getfield 79, 3) := by decide +kernel
theorem dX6_advance_152 : decode cX6_advance 152 = .ok (.aload_n 0, 1) := by decide +kernel
theorem dX6_advance_153 : decode cX6_advance 153 = .ok (.getfield 21, 3) := by decide +kernel
theorem dX6_advance_156 : decode cX6_advance 156 = .ok (.if_icmp .ge 35, 3) := by decide +kernel
theorem dX6_advance_159 : decode cX6_advance 159 = .ok (.aload_n 0, 1) := by decide +kernel
theorem dX6_advance_160 : decode cX6_advance 160 = .ok (.getfield 9, 3) := by decide +kernel
theorem dX6_advance_163 : decode cX6_advance 163 = .ok (.aload_n 0, 1) := by decide +kernel
theorem dX6_advance_164 : decode cX6_advance 164 = .ok (.getfield 79, 3) := by decide +kernel
theorem dX6_advance_167 : decode cX6_advance 167 = .ok (.iaload, 1) := by decide +kernel
theorem dX6_advance_168 : decode cX6_advance 168 = .ok (.invokestatic 88, 3) := by decide +kernel
theorem dX6_advance_171 : decode cX6_advance 171 = .ok (.aload_n 0, 1) := by decide +kernel
theorem dX6_advance_172 : decode cX6_advance 172 = .ok (.getfield 58, 3) := by decide +kernel
theorem dX6_advance_175 : decode cX6_advance 175 = .ok (.if_icmp .ne 16, 3) := by decide +kernel
theorem dX6_advance_178 : decode cX6_advance 178 = .ok (.aload_n 0, 1) := by decide +kernel
theorem dX6_advance_179 : decode cX6_advance 179 = .ok (.dup, 1) := by decide +kernel
theorem dX6_advance_180 : decode cX6_advance 180 = .ok (.getfield 79, 3) := by decide +kernel
theorem dX6_advance_183 : decode cX6_advance 183 = .ok (.iconst 1, 1) := by decide +kernel
theorem dX6_advance_184 : decode cX6_advance 184 = .ok (.iadd, 1) := by decide +kernel
theorem dX6_advance_185 : decode cX6_advance 185 = .ok (.putfield 79, 3) := by decide +kernel
theorem dX6_advance_188 : decode cX6_advance 188 = .ok (.goto (-40), 3) := by decide +kernel
theorem dX6_advance_191 : decode cX6_advance 191 = .ok (.aload_n 0, 1) := by decide +kernel
theorem dX6_advance_192 : decode cX6_advance 192 = .ok (.iload_n 2, 1) := by decide +kernel
theorem dX6_advance_193 : decode cX6_advance 193 = .ok (.ifCond .eq 7, 3) := by decide +kernel
theorem dX6_advance_196 : decode cX6_advance 196 = .ok (.iconst 4, 1) := by decide +kernel
theorem dX6_advance_197 : decode cX6_advance 197 = .ok (.goto 7, 3) := by decide +kernel
theorem dX6_advance_200 : decode cX6_advance 200 = .ok (.aload_n 0, 1) := by decide +kernel
theorem dX6_advance_201 : decode cX6_advance 201 = .ok (.getfield 58, 3) := by decide +kernel
theorem dX6_advance_204 : decode cX6_advance 204 = .ok (.putfield 58, 3) := by decide +kernel
theorem dX6_advance_207 : decode cX6_advance 207 = .ok (.return_, 1) := by decide +kernel
theorem dX6_sortOf_0 : decode cX6_sortOf 0 = .ok (.iload_n 0, 1) := by decide +kernel
theorem dX6_sortOf_1 : decode cX6_sortOf 1 = .ok (.bipush 97, 2) := by decide +kernel
theorem dX6_sortOf_3 : decode cX6_sortOf 3 = .ok (.if_icmp .lt 11, 3) := by decide +kernel
theorem dX6_sortOf_6 : decode cX6_sortOf 6 = .ok (.iload_n 0, 1) := by decide +kernel
theorem dX6_sortOf_7 : decode cX6_sortOf 7 = .ok (.bipush 122, 2) := by decide +kernel
theorem dX6_sortOf_9 : decode cX6_sortOf 9 = .ok (.if_icmp .gt 5, 3) := by decide +kernel
theorem dX6_sortOf_12 : decode cX6_sortOf 12 = .ok (.iconst 2, 1) := by decide +kernel
theorem dX6_sortOf_13 : decode cX6_sortOf 13 = .ok (.ireturn, 1) := by decide +kernel
theorem dX6_sortOf_14 : decode cX6_sortOf 14 = .ok (.iload_n 0, 1) := by decide +kernel
theorem dX6_sortOf_15 : decode cX6_sortOf 15 = .ok (.bipush 48, 2) := by decide +kernel
theorem dX6_sortOf_17 : decode cX6_sortOf 17 = .ok (.if_icmp .lt 13, 3) := by decide +kernel
theorem dX6_sortOf_20 : decode cX6_sortOf 20 = .ok (.iload_n 0, 1) := by decide +kernel
theorem dX6_sortOf_21 : decode cX6_sortOf 21 = .ok (.bipush 57, 2) := by decide +kernel
theorem dX6_sortOf_23 : decode cX6_sortOf 23 = .ok (.if_icmp .gt 7, 3) := by decide +kernel
theorem dX6_sortOf_26 : decode cX6_sortOf 26 = .ok (.iconst 1, 1) := by decide +kernel
theorem dX6_sortOf_27 : decode cX6_sortOf 27 = .ok (.goto 4, 3) := by decide +kernel
theorem dX6_sortOf_30 : decode cX6_sortOf 30 = .ok (.iconst 3, 1) := by decide +kernel
theorem dX6_sortOf_31 : decode cX6_sortOf 31 = .ok (.ireturn, 1) := by decide +kernel
theorem dX6_keyHere_0 : decode cX6_keyHere 0 = .ok (.aload_n 0, 1) := by decide +kernel
theorem dX6_keyHere_1 : decode cX6_keyHere 1 = .ok (.ldc 92, 2) := by decide +kernel
theorem dX6_keyHere_3 : decode cX6_keyHere 3 = .ok (.invokevirtual 94, 3) := by decide +kernel
theorem dX6_keyHere_6 : decode cX6_keyHere 6 = .ok (.ifCond .eq 5, 3) := by decide +kernel
theorem dX6_keyHere_9 : decode cX6_keyHere 9 = .ok (.iconst 0, 1) := by decide +kernel
theorem dX6_keyHere_10 : decode cX6_keyHere 10 = .ok (.ireturn, 1) := by decide +kernel
theorem dX6_keyHere_11 : decode cX6_keyHere 11 = .ok (.aload_n 0, 1) := by decide +kernel
theorem dX6_keyHere_12 : decode cX6_keyHere 12 = .ok (.ldc 98, 2) := by decide +kernel
theorem dX6_keyHere_14 : decode cX6_keyHere 14 = .ok (.invokevirtual 94, 3) := by decide +kernel
theorem dX6_keyHere_17 : decode cX6_keyHere 17 = .ok (.ifCond .eq 5, 3) := by decide +kernel
theorem dX6_keyHere_20 : decode cX6_keyHere 20 = .ok (.iconst 1, 1) := by decide +kernel
theorem dX6_keyHere_21 : decode cX6_keyHere 21 = .ok (.ireturn, 1) := by decide +kernel
theorem dX6_keyHere_22 : decode cX6_keyHere 22 = .ok (.aload_n 0, 1) := by decide +kernel
theorem dX6_keyHere_23 : decode cX6_keyHere 23 = .ok (.ldc 100, 2) := by decide +kernel
theorem dX6_keyHere_25 : decode cX6_keyHere 25 = .ok (.invokevirtual 94, 3) := by decide +kernel
theorem dX6_keyHere_28 : decode cX6_keyHere 28 = .ok (.ifCond .eq 7, 3) := by decide +kernel
theorem dX6_keyHere_31 : decode cX6_keyHere 31 = .ok (.iconst 2, 1) := by decide +kernel
theorem dX6_keyHere_32 : decode cX6_keyHere 32 = .ok (.goto 4, 3) := by decide +kernel
theorem dX6_keyHere_35 : decode cX6_keyHere 35 = .ok (.iconst (-1), 1) := by decide +kernel
theorem dX6_keyHere_36 : decode cX6_keyHere 36 = .ok (.ireturn, 1) := by decide +kernel
theorem dX6_isHere_0 : decode cX6_isHere 0 = .ok (.aload_n 0, 1) := by decide +kernel
theorem dX6_isHere_1 : decode cX6_isHere 1 = .ok (.getfield 79, 3) := by decide +kernel
theorem dX6_isHere_4 : decode cX6_isHere 4 = .ok (.aload_n 0, 1) := by decide +kernel
theorem dX6_isHere_5 : decode cX6_isHere 5 = .ok (.getfield 55, 3) := by decide +kernel
theorem dX6_isHere_8 : decode cX6_isHere 8 = .ok (.isub, 1) := by decide +kernel
theorem dX6_isHere_9 : decode cX6_isHere 9 = .ok (.aload_n 1, 1) := by decide +kernel
theorem dX6_isHere_10 : decode cX6_isHere 10 = .ok (.invokevirtual 102, 3) := by decide +kernel
theorem dX6_isHere_13 : decode cX6_isHere 13 = .ok (.if_icmp .eq 5, 3) := by decide +kernel
theorem dX6_isHere_16 : decode cX6_isHere 16 = .ok (.iconst 0, 1) := by decide +kernel
theorem dX6_isHere_17 : decode cX6_isHere 17 = .ok (.ireturn, 1) := by decide +kernel
theorem dX6_isHere_18 : decode cX6_isHere 18 = .ok (.iconst 0, 1) := by decide +kernel
theorem dX6_isHere_19 : decode cX6_isHere 19 = .ok (.istore_n 2, 1) := by decide +kernel
theorem dX6_isHere_20 : decode cX6_isHere 20 = .ok (.iload_n 2, 1) := by decide +kernel
theorem dX6_isHere_21 : decode cX6_isHere 21 = .ok (.aload_n 1, 1) := by decide +kernel
theorem dX6_isHere_22 : decode cX6_isHere 22 = .ok (.invokevirtual 102, 3) := by decide +kernel
theorem dX6_isHere_25 : decode cX6_isHere 25 = .ok (.if_icmp .ge 30, 3) := by decide +kernel
theorem dX6_isHere_28 : decode cX6_isHere 28 = .ok (.aload_n 0, 1) := by decide +kernel
theorem dX6_isHere_29 : decode cX6_isHere 29 = .ok (.getfield 9, 3) := by decide +kernel
theorem dX6_isHere_32 : decode cX6_isHere 32 = .ok (.aload_n 0, 1) := by decide +kernel
theorem dX6_isHere_33 : decode cX6_isHere 33 = .ok (.getfield 55, 3) := by decide +kernel
theorem dX6_isHere_36 : decode cX6_isHere 36 = .ok (.iload_n 2, 1) := by decide +kernel
theorem dX6_isHere_37 : decode cX6_isHere 37 = .ok (.iadd, 1) := by decide +kernel
theorem dX6_isHere_38 : decode cX6_isHere 38 = .ok (.iaload, 1) := by decide +kernel
theorem dX6_isHere_39 : decode cX6_isHere 39 = .ok (.aload_n 1, 1) := by decide +kernel
theorem dX6_isHere_40 : decode cX6_isHere 40 = .ok (.iload_n 2, 1) := by decide +kernel
theorem dX6_isHere_41 : decode cX6_isHere 41 = .ok (.invokevirtual 106, 3) := by decide +kernel
theorem dX6_isHere_44 : decode cX6_isHere 44 = .ok (.if_icmp .eq 5, 3) := by decide +kernel
theorem dX6_isHere_47 : decode cX6_isHere 47 = .ok (.iconst 0, 1) := by decide +kernel
theorem dX6_isHere_48 : decode cX6_isHere 48 = .ok (.ireturn, 1) := by decide +kernel
theorem dX6_isHere_49 : decode cX6_isHere 49 = .ok (.iinc 2 1, 3) := by decide +kernel
theorem dX6_isHere_52 : decode cX6_isHere 52 = .ok (.goto (-32), 3) := by decide +kernel
theorem dX6_isHere_55 : decode cX6_isHere 55 = .ok (.iconst 1, 1) := by decide +kernel
theorem dX6_isHere_56 : decode cX6_isHere 56 = .ok (.ireturn, 1) := by decide +kernel
theorem dX6_takesPiece_0 : decode cX6_takesPiece 0 = .ok (.aload_n 0, 1) := by decide +kernel
theorem dX6_takesPiece_1 : decode cX6_takesPiece 1 = .ok (.getfield 58, 3) := by decide +kernel
theorem dX6_takesPiece_4 : decode cX6_takesPiece 4 = .ok (.tableswitch 52 1 3 #[28, 33, 38], 28) := by decide +kernel
theorem dX6_takesPiece_32 : decode cX6_takesPiece 32 = .ok (.aload_n 0, 1) := by decide +kernel
theorem dX6_takesPiece_33 : decode cX6_takesPiece 33 = .ok (.invokevirtual 110, 3) := by decide +kernel
theorem dX6_takesPiece_36 : decode cX6_takesPiece 36 = .ok (.ireturn, 1) := by decide +kernel
theorem dX6_takesPiece_37 : decode cX6_takesPiece 37 = .ok (.aload_n 0, 1) := by decide +kernel
theorem dX6_takesPiece_38 : decode cX6_takesPiece 38 = .ok (.invokevirtual 113, 3) := by decide +kernel
theorem dX6_takesPiece_41 : decode cX6_takesPiece 41 = .ok (.ireturn, 1) := by decide +kernel
theorem dX6_takesPiece_42 : decode cX6_takesPiece 42 = .ok (.aload_n 0, 1) := by decide +kernel
theorem dX6_takesPiece_43 : decode cX6_takesPiece 43 = .ok (.aload_n 0, 1) := by decide +kernel
theorem dX6_takesPiece_44 : decode cX6_takesPiece 44 = .ok (.getfield 9, 3) := by decide +kernel
theorem dX6_takesPiece_47 : decode cX6_takesPiece 47 = .ok (.aload_n 0, 1) := by decide +kernel
theorem dX6_takesPiece_48 : decode cX6_takesPiece 48 = .ok (.getfield 55, 3) := by decide +kernel
theorem dX6_takesPiece_51 : decode cX6_takesPiece 51 = .ok (.iaload, 1) := by decide +kernel
theorem dX6_takesPiece_52 : decode cX6_takesPiece 52 = .ok (.invokevirtual 116, 3) := by decide +kernel
theorem dX6_takesPiece_55 : decode cX6_takesPiece 55 = .ok (.ireturn, 1) := by decide +kernel
theorem dX6_takesPiece_56 : decode cX6_takesPiece 56 = .ok (.iconst 0, 1) := by decide +kernel
theorem dX6_takesPiece_57 : decode cX6_takesPiece 57 = .ok (.ireturn, 1) := by decide +kernel
theorem dX6_takesNumber_0 : decode cX6_takesNumber 0 = .ok (.aload_n 0, 1) := by decide +kernel
theorem dX6_takesNumber_1 : decode cX6_takesNumber 1 = .ok (.getfield 79, 3) := by decide +kernel
theorem dX6_takesNumber_4 : decode cX6_takesNumber 4 = .ok (.aload_n 0, 1) := by decide +kernel
theorem dX6_takesNumber_5 : decode cX6_takesNumber 5 = .ok (.getfield 55, 3) := by decide +kernel
theorem dX6_takesNumber_8 : decode cX6_takesNumber 8 = .ok (.isub, 1) := by decide +kernel
theorem dX6_takesNumber_9 : decode cX6_takesNumber 9 = .ok (.iconst 4, 1) := by decide +kernel
theorem dX6_takesNumber_10 : decode cX6_takesNumber 10 = .ok (.if_icmp .le 5, 3) := by decide +kernel
theorem dX6_takesNumber_13 : decode cX6_takesNumber 13 = .ok (.iconst 0, 1) := by decide +kernel
theorem dX6_takesNumber_14 : decode cX6_takesNumber 14 = .ok (.ireturn, 1) := by decide +kernel
theorem dX6_takesNumber_15 : decode cX6_takesNumber 15 = .ok (.iconst 0, 1) := by decide +kernel
theorem dX6_takesNumber_16 : decode cX6_takesNumber 16 = .ok (.istore_n 1, 1) := by decide +kernel
theorem dX6_takesNumber_17 : decode cX6_takesNumber 17 = .ok (.aload_n 0, 1) := by decide +kernel
theorem dX6_takesNumber_18 : decode cX6_takesNumber 18 = .ok (.getfield 55, 3) := by decide +kernel
theorem dX6_takesNumber_21 : decode cX6_takesNumber 21 = .ok (.istore_n 2, 1) := by decide +kernel
theorem dX6_takesNumber_22 : decode cX6_takesNumber 22 = .ok (.iload_n 2, 1) := by decide +kernel
theorem dX6_takesNumber_23 : decode cX6_takesNumber 23 = .ok (.aload_n 0, 1) := by decide +kernel
theorem dX6_takesNumber_24 : decode cX6_takesNumber 24 = .ok (.getfield 79, 3) := by decide +kernel
theorem dX6_takesNumber_27 : decode cX6_takesNumber 27 = .ok (.if_icmp .ge 24, 3) := by decide +kernel
theorem dX6_takesNumber_30 : decode cX6_takesNumber 30 = .ok (.iload_n 1, 1) := by decide +kernel
theorem dX6_takesNumber_31 : decode cX6_takesNumber 31 = .ok (.bipush 10, 2) := by decide +kernel
theorem dX6_takesNumber_33 : decode cX6_takesNumber 33 = .ok (.imul, 1) := by decide +kernel
theorem dX6_takesNumber_34 : decode cX6_takesNumber 34 = .ok (.aload_n 0, 1) := by decide +kernel
theorem dX6_takesNumber_35 : decode cX6_takesNumber 35 = .ok (.getfield 9, 3) := by decide +kernel
theorem dX6_takesNumber_38 : decode cX6_takesNumber 38 = .ok (.iload_n 2, 1) := by decide +kernel
theorem dX6_takesNumber_39 : decode cX6_takesNumber 39 = .ok (.iaload, 1) := by decide +kernel
theorem dX6_takesNumber_40 : decode cX6_takesNumber 40 = .ok (.iadd, 1) := by decide +kernel
theorem dX6_takesNumber_41 : decode cX6_takesNumber 41 = .ok (.bipush 48, 2) := by decide +kernel
theorem dX6_takesNumber_43 : decode cX6_takesNumber 43 = .ok (.isub, 1) := by decide +kernel
theorem dX6_takesNumber_44 : decode cX6_takesNumber 44 = .ok (.istore_n 1, 1) := by decide +kernel
theorem dX6_takesNumber_45 : decode cX6_takesNumber 45 = .ok (.iinc 2 1, 3) := by decide +kernel
theorem dX6_takesNumber_48 : decode cX6_takesNumber 48 = .ok (.goto (-26), 3) := by decide +kernel
theorem dX6_takesNumber_51 : decode cX6_takesNumber 51 = .ok (.aload_n 0, 1) := by decide +kernel
theorem dX6_takesNumber_52 : decode cX6_takesNumber 52 = .ok (.iload_n 1, 1) := by decide +kernel
theorem dX6_takesNumber_53 : decode cX6_takesNumber 53 = .ok (.invokevirtual 120, 3) := by decide +kernel
theorem dX6_takesNumber_56 : decode cX6_takesNumber 56 = .ok (.iconst 1, 1) := by decide +kernel
theorem dX6_takesNumber_57 : decode cX6_takesNumber 57 = .ok (.ireturn, 1) := by decide +kernel
theorem dX6_takesName_0 : decode cX6_takesName 0 = .ok (.aload_n 0, 1) := by decide +kernel
theorem dX6_takesName_1 : decode cX6_takesName 1 = .ok (.getfield 36, 3) := by decide +kernel
theorem dX6_takesName_4 : decode cX6_takesName 4 = .ok (.ifCond .ne 8, 3) := by decide +kernel
theorem dX6_takesName_7 : decode cX6_takesName 7 = .ok (.ldc 123, 2) := by decide +kernel
theorem dX6_takesName_9 : decode cX6_takesName 9 = .ok (.goto 18, 3) := by decide +kernel
theorem dX6_takesName_12 : decode cX6_takesName 12 = .ok (.aload_n 0, 1) := by decide +kernel
theorem dX6_takesName_13 : decode cX6_takesName 13 = .ok (.getfield 36, 3) := by decide +kernel
theorem dX6_takesName_16 : decode cX6_takesName 16 = .ok (.iconst 1, 1) := by decide +kernel
theorem dX6_takesName_17 : decode cX6_takesName 17 = .ok (.if_icmp .ne 8, 3) := by decide +kernel
theorem dX6_takesName_20 : decode cX6_takesName 20 = .ok (.ldc 125, 2) := by decide +kernel
theorem dX6_takesName_22 : decode cX6_takesName 22 = .ok (.goto 5, 3) := by decide +kernel
theorem dX6_takesName_25 : decode cX6_takesName 25 = .ok (.ldc 127, 2) := by decide +kernel
theorem dX6_takesName_27 : decode cX6_takesName 27 = .ok (.astore_n 1, 1) := by decide +kernel
theorem dX6_takesName_28 : decode cX6_takesName 28 = .ok (.aload_n 0, 1) := by decide +kernel
theorem dX6_takesName_29 : decode cX6_takesName 29 = .ok (.getfield 79, 3) := by decide +kernel
theorem dX6_takesName_32 : decode cX6_takesName 32 = .ok (.aload_n 0, 1) := by decide +kernel
theorem dX6_takesName_33 : decode cX6_takesName 33 = .ok (.getfield 55, 3) := by decide +kernel
theorem dX6_takesName_36 : decode cX6_takesName 36 = .ok (.isub, 1) := by decide +kernel
theorem dX6_takesName_37 : decode cX6_takesName 37 = .ok (.iconst 1, 1) := by decide +kernel
theorem dX6_takesName_38 : decode cX6_takesName 38 = .ok (.if_icmp .ne 20, 3) := by decide +kernel
theorem dX6_takesName_41 : decode cX6_takesName 41 = .ok (.aload_n 1, 1) := by decide +kernel
theorem dX6_takesName_42 : decode cX6_takesName 42 = .ok (.aload_n 0, 1) := by decide +kernel
theorem dX6_takesName_43 : decode cX6_takesName 43 = .ok (.getfield 9, 3) := by decide +kernel
theorem dX6_takesName_46 : decode cX6_takesName 46 = .ok (.aload_n 0, 1) := by decide +kernel
theorem dX6_takesName_47 : decode cX6_takesName 47 = .ok (.getfield 55, 3) := by decide +kernel
theorem dX6_takesName_50 : decode cX6_takesName 50 = .ok (.iaload, 1) := by decide +kernel
theorem dX6_takesName_51 : decode cX6_takesName 51 = .ok (.i2c, 1) := by decide +kernel
theorem dX6_takesName_52 : decode cX6_takesName 52 = .ok (.invokevirtual 129, 3) := by decide +kernel
theorem dX6_takesName_55 : decode cX6_takesName 55 = .ok (.goto 4, 3) := by decide +kernel
theorem dX6_takesName_58 : decode cX6_takesName 58 = .ok (.iconst (-1), 1) := by decide +kernel
theorem dX6_takesName_59 : decode cX6_takesName 59 = .ok (.istore_n 2, 1) := by decide +kernel
theorem dX6_takesName_60 : decode cX6_takesName 60 = .ok (.iload_n 2, 1) := by decide +kernel
theorem dX6_takesName_61 : decode cX6_takesName 61 = .ok (.ifCond .ge 5, 3) := by decide +kernel
theorem dX6_takesName_64 : decode cX6_takesName 64 = .ok (.iconst 0, 1) := by decide +kernel
theorem dX6_takesName_65 : decode cX6_takesName 65 = .ok (.ireturn, 1) := by decide +kernel
theorem dX6_takesName_66 : decode cX6_takesName 66 = .ok (.aload_n 0, 1) := by decide +kernel
theorem dX6_takesName_67 : decode cX6_takesName 67 = .ok (.iconst (-1), 1) := by decide +kernel
theorem dX6_takesName_68 : decode cX6_takesName 68 = .ok (.iload_n 2, 1) := by decide +kernel
theorem dX6_takesName_69 : decode cX6_takesName 69 = .ok (.isub, 1) := by decide +kernel
theorem dX6_takesName_70 : decode cX6_takesName 70 = .ok (.invokevirtual 120, 3) := by decide +kernel
theorem dX6_takesName_73 : decode cX6_takesName 73 = .ok (.iconst 1, 1) := by decide +kernel
theorem dX6_takesName_74 : decode cX6_takesName 74 = .ok (.ireturn, 1) := by decide +kernel
theorem dX6_takesOpening_0 : decode cX6_takesOpening 0 = .ok (.iload_n 1, 1) := by decide +kernel
theorem dX6_takesOpening_1 : decode cX6_takesOpening 1 = .ok (.bipush 40, 2) := by decide +kernel
theorem dX6_takesOpening_3 : decode cX6_takesOpening 3 = .ok (.if_icmp .ne 25, 3) := by decide +kernel
theorem dX6_takesOpening_6 : decode cX6_takesOpening 6 = .ok (.aload_n 0, 1) := by decide +kernel
theorem dX6_takesOpening_7 : decode cX6_takesOpening 7 = .ok (.getfield 72, 3) := by decide +kernel
theorem dX6_takesOpening_10 : decode cX6_takesOpening 10 = .ok (.bipush 8, 2) := by decide +kernel
theorem dX6_takesOpening_12 : decode cX6_takesOpening 12 = .ok (.if_icmp .ge 16, 3) := by decide +kernel
theorem dX6_takesOpening_15 : decode cX6_takesOpening 15 = .ok (.aload_n 0, 1) := by decide +kernel
theorem dX6_takesOpening_16 : decode cX6_takesOpening 16 = .ok (.dup, 1) := by decide +kernel
theorem dX6_takesOpening_17 : decode cX6_takesOpening 17 = .ok (.getfield 72, 3) := by decide +kernel
theorem dX6_takesOpening_20 : decode cX6_takesOpening 20 = .ok (.iconst 1, 1) := by decide +kernel
theorem dX6_takesOpening_21 : decode cX6_takesOpening 21 = .ok (.iadd, 1) := by decide +kernel
theorem dX6_takesOpening_22 : decode cX6_takesOpening 22 = .ok (.putfield 72, 3) := by decide +kernel
theorem dX6_takesOpening_25 : decode cX6_takesOpening 25 = .ok (.goto 33, 3) := by decide +kernel
theorem dX6_takesOpening_28 : decode cX6_takesOpening 28 = .ok (.iload_n 1, 1) := by decide +kernel
theorem dX6_takesOpening_29 : decode cX6_takesOpening 29 = .ok (.bipush 33, 2) := by decide +kernel
theorem dX6_takesOpening_31 : decode cX6_takesOpening 31 = .ok (.if_icmp .ne 25, 3) := by decide +kernel
theorem dX6_takesOpening_34 : decode cX6_takesOpening 34 = .ok (.aload_n 0, 1) := by decide +kernel
theorem dX6_takesOpening_35 : decode cX6_takesOpening 35 = .ok (.getfield 85, 3) := by decide +kernel
theorem dX6_takesOpening_38 : decode cX6_takesOpening 38 = .ok (.bipush 8, 2) := by decide +kernel
theorem dX6_takesOpening_40 : decode cX6_takesOpening 40 = .ok (.if_icmp .ge 16, 3) := by decide +kernel
theorem dX6_takesOpening_43 : decode cX6_takesOpening 43 = .ok (.aload_n 0, 1) := by decide +kernel
theorem dX6_takesOpening_44 : decode cX6_takesOpening 44 = .ok (.dup, 1) := by decide +kernel
theorem dX6_takesOpening_45 : decode cX6_takesOpening 45 = .ok (.getfield 85, 3) := by decide +kernel
theorem dX6_takesOpening_48 : decode cX6_takesOpening 48 = .ok (.iconst 1, 1) := by decide +kernel
theorem dX6_takesOpening_49 : decode cX6_takesOpening 49 = .ok (.iadd, 1) := by decide +kernel
theorem dX6_takesOpening_50 : decode cX6_takesOpening 50 = .ok (.putfield 85, 3) := by decide +kernel
theorem dX6_takesOpening_53 : decode cX6_takesOpening 53 = .ok (.goto 5, 3) := by decide +kernel
theorem dX6_takesOpening_56 : decode cX6_takesOpening 56 = .ok (.iconst 0, 1) := by decide +kernel
theorem dX6_takesOpening_57 : decode cX6_takesOpening 57 = .ok (.ireturn, 1) := by decide +kernel
theorem dX6_takesOpening_58 : decode cX6_takesOpening 58 = .ok (.aload_n 0, 1) := by decide +kernel
theorem dX6_takesOpening_59 : decode cX6_takesOpening 59 = .ok (.iload_n 1, 1) := by decide +kernel
theorem dX6_takesOpening_60 : decode cX6_takesOpening 60 = .ok (.invokevirtual 132, 3) := by decide +kernel
theorem dX6_takesOpening_63 : decode cX6_takesOpening 63 = .ok (.iconst 1, 1) := by decide +kernel
theorem dX6_takesOpening_64 : decode cX6_takesOpening 64 = .ok (.ireturn, 1) := by decide +kernel
theorem dX6_takesSign_0 : decode cX6_takesSign 0 = .ok (.aload_n 0, 1) := by decide +kernel
theorem dX6_takesSign_1 : decode cX6_takesSign 1 = .ok (.getfield 58, 3) := by decide +kernel
theorem dX6_takesSign_4 : decode cX6_takesSign 4 = .ok (.iconst 3, 1) := by decide +kernel
theorem dX6_takesSign_5 : decode cX6_takesSign 5 = .ok (.if_icmp .eq 5, 3) := by decide +kernel
theorem dX6_takesSign_8 : decode cX6_takesSign 8 = .ok (.iconst 0, 1) := by decide +kernel
theorem dX6_takesSign_9 : decode cX6_takesSign 9 = .ok (.ireturn, 1) := by decide +kernel
theorem dX6_takesSign_10 : decode cX6_takesSign 10 = .ok (.aload_n 0, 1) := by decide +kernel
theorem dX6_takesSign_11 : decode cX6_takesSign 11 = .ok (.getfield 9, 3) := by decide +kernel
theorem dX6_takesSign_14 : decode cX6_takesSign 14 = .ok (.aload_n 0, 1) := by decide +kernel
theorem dX6_takesSign_15 : decode cX6_takesSign 15 = .ok (.getfield 55, 3) := by decide +kernel
theorem dX6_takesSign_18 : decode cX6_takesSign 18 = .ok (.iaload, 1) := by decide +kernel
theorem dX6_takesSign_19 : decode cX6_takesSign 19 = .ok (.istore_n 1, 1) := by decide +kernel
theorem dX6_takesSign_20 : decode cX6_takesSign 20 = .ok (.iload_n 1, 1) := by decide +kernel
theorem dX6_takesSign_21 : decode cX6_takesSign 21 = .ok (.bipush 41, 2) := by decide +kernel
theorem dX6_takesSign_23 : decode cX6_takesSign 23 = .ok (.if_icmp .ne 8, 3) := by decide +kernel
theorem dX6_takesSign_26 : decode cX6_takesSign 26 = .ok (.aload_n 0, 1) := by decide +kernel
theorem dX6_takesSign_27 : decode cX6_takesSign 27 = .ok (.invokevirtual 135, 3) := by decide +kernel
theorem dX6_takesSign_30 : decode cX6_takesSign 30 = .ok (.ireturn, 1) := by decide +kernel
theorem dX6_takesSign_31 : decode cX6_takesSign 31 = .ok (.iload_n 1, 1) := by decide +kernel
theorem dX6_takesSign_32 : decode cX6_takesSign 32 = .ok (.invokestatic 138, 3) := by decide +kernel
theorem dX6_takesSign_35 : decode cX6_takesSign 35 = .ok (.istore_n 2, 1) := by decide +kernel
theorem dX6_takesSign_36 : decode cX6_takesSign 36 = .ok (.iload_n 2, 1) := by decide +kernel
theorem dX6_takesSign_37 : decode cX6_takesSign 37 = .ok (.ifCond .ne 5, 3) := by decide +kernel
theorem dX6_takesSign_40 : decode cX6_takesSign 40 = .ok (.iconst 0, 1) := by decide +kernel
theorem dX6_takesSign_41 : decode cX6_takesSign 41 = .ok (.ireturn, 1) := by decide +kernel
theorem dX6_takesSign_42 : decode cX6_takesSign 42 = .ok (.iload_n 2, 1) := by decide +kernel
theorem dX6_takesSign_43 : decode cX6_takesSign 43 = .ok (.iconst 3, 1) := by decide +kernel
theorem dX6_takesSign_44 : decode cX6_takesSign 44 = .ok (.if_icmp .ne 35, 3) := by decide +kernel
theorem dX6_takesSign_47 : decode cX6_takesSign 47 = .ok (.aload_n 0, 1) := by decide +kernel
theorem dX6_takesSign_48 : decode cX6_takesSign 48 = .ok (.iconst 4, 1) := by decide +kernel
theorem dX6_takesSign_49 : decode cX6_takesSign 49 = .ok (.invokevirtual 75, 3) := by decide +kernel
theorem dX6_takesSign_52 : decode cX6_takesSign 52 = .ok (.aload_n 0, 1) := by decide +kernel
theorem dX6_takesSign_53 : decode cX6_takesSign 53 = .ok (.getfield 82, 3) := by decide +kernel
theorem dX6_takesSign_56 : decode cX6_takesSign 56 = .ok (.ifCond .le 23, 3) := by decide +kernel
theorem dX6_takesSign_59 : decode cX6_takesSign 59 = .ok (.aload_n 0, 1) := by decide +kernel
theorem dX6_takesSign_60 : decode cX6_takesSign 60 = .ok (.getfield 18, 3) := by decide +kernel
theorem dX6_takesSign_63 : decode cX6_takesSign 63 = .ok (.aload_n 0, 1) := by decide +kernel
theorem dX6_takesSign_64 : decode cX6_takesSign 64 = .ok (.getfield 82, 3) := by decide +kernel
theorem dX6_takesSign_67 : decode cX6_takesSign 67 = .ok (.iconst 1, 1) := by decide +kernel
theorem dX6_takesSign_68 : decode cX6_takesSign 68 = .ok (.isub, 1) := by decide +kernel
theorem dX6_takesSign_69 : decode cX6_takesSign 69 = .ok (.iaload, 1) := by decide +kernel
theorem dX6_takesSign_70 : decode cX6_takesSign 70 = .ok (.invokestatic 138, 3) := by decide +kernel
theorem dX6_takesSign_73 : decode cX6_takesSign 73 = .ok (.iconst 3, 1) := by decide +kernel
theorem dX6_takesSign_74 : decode cX6_takesSign 74 = .ok (.if_icmp .ne 5, 3) := by decide +kernel
theorem dX6_takesSign_77 : decode cX6_takesSign 77 = .ok (.iconst 0, 1) := by decide +kernel
theorem dX6_takesSign_78 : decode cX6_takesSign 78 = .ok (.ireturn, 1) := by decide +kernel
theorem dX6_takesSign_79 : decode cX6_takesSign 79 = .ok (.aload_n 0, 1) := by decide +kernel
theorem dX6_takesSign_80 : decode cX6_takesSign 80 = .ok (.iload_n 2, 1) := by decide +kernel
theorem dX6_takesSign_81 : decode cX6_takesSign 81 = .ok (.invokevirtual 75, 3) := by decide +kernel
theorem dX6_takesSign_84 : decode cX6_takesSign 84 = .ok (.aload_n 0, 1) := by decide +kernel
theorem dX6_takesSign_85 : decode cX6_takesSign 85 = .ok (.iload_n 1, 1) := by decide +kernel
theorem dX6_takesSign_86 : decode cX6_takesSign 86 = .ok (.invokevirtual 132, 3) := by decide +kernel
theorem dX6_takesSign_89 : decode cX6_takesSign 89 = .ok (.aload_n 0, 1) := by decide +kernel
theorem dX6_takesSign_90 : decode cX6_takesSign 90 = .ok (.iconst 1, 1) := by decide +kernel
theorem dX6_takesSign_91 : decode cX6_takesSign 91 = .ok (.putfield 61, 3) := by decide +kernel
theorem dX6_takesSign_94 : decode cX6_takesSign 94 = .ok (.iconst 1, 1) := by decide +kernel
theorem dX6_takesSign_95 : decode cX6_takesSign 95 = .ok (.ireturn, 1) := by decide +kernel
theorem dX6_takesClosing_0 : decode cX6_takesClosing 0 = .ok (.aload_n 0, 1) := by decide +kernel
theorem dX6_takesClosing_1 : decode cX6_takesClosing 1 = .ok (.getfield 72, 3) := by decide +kernel
theorem dX6_takesClosing_4 : decode cX6_takesClosing 4 = .ok (.ifCond .ne 5, 3) := by decide +kernel
theorem dX6_takesClosing_7 : decode cX6_takesClosing 7 = .ok (.iconst 0, 1) := by decide +kernel
theorem dX6_takesClosing_8 : decode cX6_takesClosing 8 = .ok (.ireturn, 1) := by decide +kernel
theorem dX6_takesClosing_9 : decode cX6_takesClosing 9 = .ok (.aload_n 0, 1) := by decide +kernel
theorem dX6_takesClosing_10 : decode cX6_takesClosing 10 = .ok (.iconst 1, 1) := by decide +kernel
theorem dX6_takesClosing_11 : decode cX6_takesClosing 11 = .ok (.invokevirtual 75, 3) := by decide +kernel
theorem dX6_takesClosing_14 : decode cX6_takesClosing 14 = .ok (.aload_n 0, 1) := by decide +kernel
theorem dX6_takesClosing_15 : decode cX6_takesClosing 15 = .ok (.dup, 1) := by decide +kernel
theorem dX6_takesClosing_16 : decode cX6_takesClosing 16 = .ok (.getfield 72, 3) := by decide +kernel
theorem dX6_takesClosing_19 : decode cX6_takesClosing 19 = .ok (.iconst 1, 1) := by decide +kernel
theorem dX6_takesClosing_20 : decode cX6_takesClosing 20 = .ok (.isub, 1) := by decide +kernel
theorem dX6_takesClosing_21 : decode cX6_takesClosing 21 = .ok (.putfield 72, 3) := by decide +kernel
theorem dX6_takesClosing_24 : decode cX6_takesClosing 24 = .ok (.aload_n 0, 1) := by decide +kernel
theorem dX6_takesClosing_25 : decode cX6_takesClosing 25 = .ok (.dup, 1) := by decide +kernel
theorem dX6_takesClosing_26 : decode cX6_takesClosing 26 = .ok (.getfield 82, 3) := by decide +kernel
theorem dX6_takesClosing_29 : decode cX6_takesClosing 29 = .ok (.iconst 1, 1) := by decide +kernel
theorem dX6_takesClosing_30 : decode cX6_takesClosing 30 = .ok (.isub, 1) := by decide +kernel
theorem dX6_takesClosing_31 : decode cX6_takesClosing 31 = .ok (.putfield 82, 3) := by decide +kernel
theorem dX6_takesClosing_34 : decode cX6_takesClosing 34 = .ok (.aload_n 0, 1) := by decide +kernel
theorem dX6_takesClosing_35 : decode cX6_takesClosing 35 = .ok (.invokevirtual 141, 3) := by decide +kernel
theorem dX6_takesClosing_38 : decode cX6_takesClosing 38 = .ok (.iconst 1, 1) := by decide +kernel
theorem dX6_takesClosing_39 : decode cX6_takesClosing 39 = .ok (.ireturn, 1) := by decide +kernel
theorem dX6_writeThing_0 : decode cX6_writeThing 0 = .ok (.aload_n 0, 1) := by decide +kernel
theorem dX6_writeThing_1 : decode cX6_writeThing 1 = .ok (.dup, 1) := by decide +kernel
theorem dX6_writeThing_2 : decode cX6_writeThing 2 = .ok (.getfield 39, 3) := by decide +kernel
theorem dX6_writeThing_5 : decode cX6_writeThing 5 = .ok (.iconst 1, 1) := by decide +kernel
theorem dX6_writeThing_6 : decode cX6_writeThing 6 = .ok (.iadd, 1) := by decide +kernel
theorem dX6_writeThing_7 : decode cX6_writeThing 7 = .ok (.putfield 39, 3) := by decide +kernel
theorem dX6_writeThing_10 : decode cX6_writeThing 10 = .ok (.aload_n 0, 1) := by decide +kernel
theorem dX6_writeThing_11 : decode cX6_writeThing 11 = .ok (.iload_n 1, 1) := by decide +kernel
theorem dX6_writeThing_12 : decode cX6_writeThing 12 = .ok (.invokevirtual 144, 3) := by decide +kernel
theorem dX6_writeThing_15 : decode cX6_writeThing 15 = .ok (.aload_n 0, 1) := by decide +kernel
theorem dX6_writeThing_16 : decode cX6_writeThing 16 = .ok (.invokevirtual 141, 3) := by decide +kernel
theorem dX6_writeThing_19 : decode cX6_writeThing 19 = .ok (.return_, 1) := by decide +kernel
theorem dX6_pieceStands_0 : decode cX6_pieceStands 0 = .ok (.aload_n 0, 1) := by decide +kernel
theorem dX6_pieceStands_1 : decode cX6_pieceStands 1 = .ok (.iconst 0, 1) := by decide +kernel
theorem dX6_pieceStands_2 : decode cX6_pieceStands 2 = .ok (.putfield 61, 3) := by decide +kernel
theorem dX6_pieceStands_5 : decode cX6_pieceStands 5 = .ok (.aload_n 0, 1) := by decide +kernel
theorem dX6_pieceStands_6 : decode cX6_pieceStands 6 = .ok (.getfield 82, 3) := by decide +kernel
theorem dX6_pieceStands_9 : decode cX6_pieceStands 9 = .ok (.ifCond .le 48, 3) := by decide +kernel
theorem dX6_pieceStands_12 : decode cX6_pieceStands 12 = .ok (.aload_n 0, 1) := by decide +kernel
theorem dX6_pieceStands_13 : decode cX6_pieceStands 13 = .ok (.getfield 18, 3) := by decide +kernel
theorem dX6_pieceStands_16 : decode cX6_pieceStands 16 = .ok (.aload_n 0, 1) := by decide +kernel
theorem dX6_pieceStands_17 : decode cX6_pieceStands 17 = .ok (.getfield 82, 3) := by decide +kernel
theorem dX6_pieceStands_20 : decode cX6_pieceStands 20 = .ok (.iconst 1, 1) := by decide +kernel
theorem dX6_pieceStands_21 : decode cX6_pieceStands 21 = .ok (.isub, 1) := by decide +kernel
theorem dX6_pieceStands_22 : decode cX6_pieceStands 22 = .ok (.iaload, 1) := by decide +kernel
theorem dX6_pieceStands_23 : decode cX6_pieceStands 23 = .ok (.bipush 33, 2) := by decide +kernel
theorem dX6_pieceStands_25 : decode cX6_pieceStands 25 = .ok (.if_icmp .ne 32, 3) := by decide +kernel
theorem dX6_pieceStands_28 : decode cX6_pieceStands 28 = .ok (.aload_n 0, 1) := by decide +kernel
theorem dX6_pieceStands_29 : decode cX6_pieceStands 29 = .ok (.dup, 1) := by decide +kernel
theorem dX6_pieceStands_30 : decode cX6_pieceStands 30 = .ok (.getfield 82, 3) := by decide +kernel
theorem dX6_pieceStands_33 : decode cX6_pieceStands 33 = .ok (.iconst 1, 1) := by decide +kernel
theorem dX6_pieceStands_34 : decode cX6_pieceStands 34 = .ok (.isub, 1) := by decide +kernel
theorem dX6_pieceStands_35 : decode cX6_pieceStands 35 = .ok (.putfield 82, 3) := by decide +kernel
theorem dX6_pieceStands_38 : decode cX6_pieceStands 38 = .ok (.aload_n 0, 1) := by decide +kernel
theorem dX6_pieceStands_39 : decode cX6_pieceStands 39 = .ok (.dup, 1) := by decide +kernel
theorem dX6_pieceStands_40 : decode cX6_pieceStands 40 = .ok (.getfield 85, 3) := by decide +kernel
theorem dX6_pieceStands_43 : decode cX6_pieceStands 43 = .ok (.iconst 1, 1) := by decide +kernel
theorem dX6_pieceStands_44 : decode cX6_pieceStands 44 = .ok (.isub, 1) := by decide +kernel
theorem dX6_pieceStands_45 : decode cX6_pieceStands 45 = .ok (.putfield 85, 3) := by decide +kernel
theorem dX6_pieceStands_48 : decode cX6_pieceStands 48 = .ok (.aload_n 0, 1) := by decide +kernel
theorem dX6_pieceStands_49 : decode cX6_pieceStands 49 = .ok (.bipush (-33), 2) := by decide +kernel
theorem dX6_pieceStands_51 : decode cX6_pieceStands 51 = .ok (.invokevirtual 144, 3) := by decide +kernel
theorem dX6_pieceStands_54 : decode cX6_pieceStands 54 = .ok (.goto (-49), 3) := by decide +kernel
theorem dX6_pieceStands_57 : decode cX6_pieceStands 57 = .ok (.return_, 1) := by decide +kernel
theorem dX6_settle_0 : decode cX6_settle 0 = .ok (.aload_n 0, 1) := by decide +kernel
theorem dX6_settle_1 : decode cX6_settle 1 = .ok (.getfield 82, 3) := by decide +kernel
theorem dX6_settle_4 : decode cX6_settle 4 = .ok (.ifCond .le 64, 3) := by decide +kernel
theorem dX6_settle_7 : decode cX6_settle 7 = .ok (.aload_n 0, 1) := by decide +kernel
theorem dX6_settle_8 : decode cX6_settle 8 = .ok (.getfield 18, 3) := by decide +kernel
theorem dX6_settle_11 : decode cX6_settle 11 = .ok (.aload_n 0, 1) := by decide +kernel
theorem dX6_settle_12 : decode cX6_settle 12 = .ok (.getfield 82, 3) := by decide +kernel
theorem dX6_settle_15 : decode cX6_settle 15 = .ok (.iconst 1, 1) := by decide +kernel
theorem dX6_settle_16 : decode cX6_settle 16 = .ok (.isub, 1) := by decide +kernel
theorem dX6_settle_17 : decode cX6_settle 17 = .ok (.iaload, 1) := by decide +kernel
theorem dX6_settle_18 : decode cX6_settle 18 = .ok (.bipush 40, 2) := by decide +kernel
theorem dX6_settle_20 : decode cX6_settle 20 = .ok (.if_icmp .eq 48, 3) := by decide +kernel
theorem dX6_settle_23 : decode cX6_settle 23 = .ok (.aload_n 0, 1) := by decide +kernel
theorem dX6_settle_24 : decode cX6_settle 24 = .ok (.getfield 18, 3) := by decide +kernel
theorem dX6_settle_27 : decode cX6_settle 27 = .ok (.aload_n 0, 1) := by decide +kernel
theorem dX6_settle_28 : decode cX6_settle 28 = .ok (.getfield 82, 3) := by decide +kernel
theorem dX6_settle_31 : decode cX6_settle 31 = .ok (.iconst 1, 1) := by decide +kernel
theorem dX6_settle_32 : decode cX6_settle 32 = .ok (.isub, 1) := by decide +kernel
theorem dX6_settle_33 : decode cX6_settle 33 = .ok (.iaload, 1) := by decide +kernel
theorem dX6_settle_34 : decode cX6_settle 34 = .ok (.invokestatic 138, 3) := by decide +kernel
theorem dX6_settle_37 : decode cX6_settle 37 = .ok (.iload_n 1, 1) := by decide +kernel
theorem dX6_settle_38 : decode cX6_settle 38 = .ok (.if_icmp .lt 30, 3) := by decide +kernel
theorem dX6_settle_41 : decode cX6_settle 41 = .ok (.aload_n 0, 1) := by decide +kernel
theorem dX6_settle_42 : decode cX6_settle 42 = .ok (.dup, 1) := by decide +kernel
theorem dX6_settle_43 : decode cX6_settle 43 = .ok (.getfield 82, 3) := by decide +kernel
theorem dX6_settle_46 : decode cX6_settle 46 = .ok (.iconst 1, 1) := by decide +kernel
theorem dX6_settle_47 : decode cX6_settle 47 = .ok (.isub, 1) := by decide +kernel
theorem dX6_settle_48 : decode cX6_settle 48 = .ok (.putfield 82, 3) := by decide +kernel
theorem dX6_settle_51 : decode cX6_settle 51 = .ok (.aload_n 0, 1) := by decide +kernel
theorem dX6_settle_52 : decode cX6_settle 52 = .ok (.aload_n 0, 1) := by decide +kernel
theorem dX6_settle_53 : decode cX6_settle 53 = .ok (.getfield 18, 3) := by decide +kernel
theorem dX6_settle_56 : decode cX6_settle 56 = .ok (.aload_n 0, 1) := by decide +kernel
theorem dX6_settle_57 : decode cX6_settle 57 = .ok (.getfield 82, 3) := by decide +kernel
theorem dX6_settle_60 : decode cX6_settle 60 = .ok (.iaload, 1) := by decide +kernel
theorem dX6_settle_61 : decode cX6_settle 61 = .ok (.ineg, 1) := by decide +kernel
theorem dX6_settle_62 : decode cX6_settle 62 = .ok (.invokevirtual 144, 3) := by decide +kernel
theorem dX6_settle_65 : decode cX6_settle 65 = .ok (.goto (-65), 3) := by decide +kernel
theorem dX6_settle_68 : decode cX6_settle 68 = .ok (.return_, 1) := by decide +kernel
theorem dX6_write_0 : decode cX6_write 0 = .ok (.aload_n 0, 1) := by decide +kernel
theorem dX6_write_1 : decode cX6_write 1 = .ok (.getfield 25, 3) := by decide +kernel
theorem dX6_write_4 : decode cX6_write 4 = .ok (.bipush 96, 2) := by decide +kernel
theorem dX6_write_6 : decode cX6_write 6 = .ok (.if_icmp .ge 23, 3) := by decide +kernel
theorem dX6_write_9 : decode cX6_write 9 = .ok (.aload_n 0, 1) := by decide +kernel
theorem dX6_write_10 : decode cX6_write 10 = .ok (.getfield 15, 3) := by decide +kernel
theorem dX6_write_13 : decode cX6_write 13 = .ok (.aload_n 0, 1) := by decide +kernel
theorem dX6_write_14 : decode cX6_write 14 = .ok (.getfield 25, 3) := by decide +kernel
theorem dX6_write_17 : decode cX6_write 17 = .ok (.iload_n 1, 1) := by decide +kernel
theorem dX6_write_18 : decode cX6_write 18 = .ok (.iastore, 1) := by decide +kernel
theorem dX6_write_19 : decode cX6_write 19 = .ok (.aload_n 0, 1) := by decide +kernel
theorem dX6_write_20 : decode cX6_write 20 = .ok (.dup, 1) := by decide +kernel
theorem dX6_write_21 : decode cX6_write 21 = .ok (.getfield 25, 3) := by decide +kernel
theorem dX6_write_24 : decode cX6_write 24 = .ok (.iconst 1, 1) := by decide +kernel
theorem dX6_write_25 : decode cX6_write 25 = .ok (.iadd, 1) := by decide +kernel
theorem dX6_write_26 : decode cX6_write 26 = .ok (.putfield 25, 3) := by decide +kernel
theorem dX6_write_29 : decode cX6_write 29 = .ok (.return_, 1) := by decide +kernel
theorem dX6_hold_0 : decode cX6_hold 0 = .ok (.aload_n 0, 1) := by decide +kernel
theorem dX6_hold_1 : decode cX6_hold 1 = .ok (.getfield 82, 3) := by decide +kernel
theorem dX6_hold_4 : decode cX6_hold 4 = .ok (.bipush 96, 2) := by decide +kernel
theorem dX6_hold_6 : decode cX6_hold 6 = .ok (.if_icmp .ge 23, 3) := by decide +kernel
theorem dX6_hold_9 : decode cX6_hold 9 = .ok (.aload_n 0, 1) := by decide +kernel
theorem dX6_hold_10 : decode cX6_hold 10 = .ok (.getfield 18, 3) := by decide +kernel
theorem dX6_hold_13 : decode cX6_hold 13 = .ok (.aload_n 0, 1) := by decide +kernel
theorem dX6_hold_14 : decode cX6_hold 14 = .ok (.getfield 82, 3) := by decide +kernel
theorem dX6_hold_17 : decode cX6_hold 17 = .ok (.iload_n 1, 1) := by decide +kernel
theorem dX6_hold_18 : decode cX6_hold 18 = .ok (.iastore, 1) := by decide +kernel
theorem dX6_hold_19 : decode cX6_hold 19 = .ok (.aload_n 0, 1) := by decide +kernel
theorem dX6_hold_20 : decode cX6_hold 20 = .ok (.dup, 1) := by decide +kernel
theorem dX6_hold_21 : decode cX6_hold 21 = .ok (.getfield 82, 3) := by decide +kernel
theorem dX6_hold_24 : decode cX6_hold 24 = .ok (.iconst 1, 1) := by decide +kernel
theorem dX6_hold_25 : decode cX6_hold 25 = .ok (.iadd, 1) := by decide +kernel
theorem dX6_hold_26 : decode cX6_hold 26 = .ok (.putfield 82, 3) := by decide +kernel
theorem dX6_hold_29 : decode cX6_hold 29 = .ok (.return_, 1) := by decide +kernel
theorem dX6_tightnessOf_0 : decode cX6_tightnessOf 0 = .ok (.iload_n 0, 1) := by decide +kernel
theorem dX6_tightnessOf_1 : decode cX6_tightnessOf 1 = .ok (.lookupswitch 93 #[(38, 85), (42, 91), (43, 89), (45, 89), (47, 91), (60, 87), (61, 87), (62, 87), (124, 83)], 83) := by decide +kernel
theorem dX6_tightnessOf_84 : decode cX6_tightnessOf 84 = .ok (.iconst 1, 1) := by decide +kernel
theorem dX6_tightnessOf_85 : decode cX6_tightnessOf 85 = .ok (.ireturn, 1) := by decide +kernel
theorem dX6_tightnessOf_86 : decode cX6_tightnessOf 86 = .ok (.iconst 2, 1) := by decide +kernel
theorem dX6_tightnessOf_87 : decode cX6_tightnessOf 87 = .ok (.ireturn, 1) := by decide +kernel
theorem dX6_tightnessOf_88 : decode cX6_tightnessOf 88 = .ok (.iconst 3, 1) := by decide +kernel
theorem dX6_tightnessOf_89 : decode cX6_tightnessOf 89 = .ok (.ireturn, 1) := by decide +kernel
theorem dX6_tightnessOf_90 : decode cX6_tightnessOf 90 = .ok (.iconst 4, 1) := by decide +kernel
theorem dX6_tightnessOf_91 : decode cX6_tightnessOf 91 = .ok (.ireturn, 1) := by decide +kernel
theorem dX6_tightnessOf_92 : decode cX6_tightnessOf 92 = .ok (.iconst 5, 1) := by decide +kernel
theorem dX6_tightnessOf_93 : decode cX6_tightnessOf 93 = .ok (.ireturn, 1) := by decide +kernel
theorem dX6_tightnessOf_94 : decode cX6_tightnessOf 94 = .ok (.iconst 0, 1) := by decide +kernel
theorem dX6_tightnessOf_95 : decode cX6_tightnessOf 95 = .ok (.ireturn, 1) := by decide +kernel
theorem dX7_init_0 : decode cX7_init 0 = .ok (.aload_n 0, 1) := by decide +kernel
theorem dX7_init_1 : decode cX7_init 1 = .ok (.invokespecial 1, 3) := by decide +kernel
theorem dX7_init_4 : decode cX7_init 4 = .ok (.aload_n 0, 1) := by decide +kernel
theorem dX7_init_5 : decode cX7_init 5 = .ok (.iload_n 1, 1) := by decide +kernel
theorem dX7_init_6 : decode cX7_init 6 = .ok (.putfield 7, 3) := by decide +kernel
theorem dX7_init_9 : decode cX7_init 9 = .ok (.aload_n 0, 1) := by decide +kernel
theorem dX7_init_10 : decode cX7_init 10 = .ok (.iload_n 2, 1) := by decide +kernel
theorem dX7_init_11 : decode cX7_init 11 = .ok (.putfield 13, 3) := by decide +kernel
theorem dX7_init_14 : decode cX7_init 14 = .ok (.aload_n 0, 1) := by decide +kernel
theorem dX7_init_15 : decode cX7_init 15 = .ok (.aload_n 3, 1) := by decide +kernel
theorem dX7_init_16 : decode cX7_init 16 = .ok (.putfield 16, 3) := by decide +kernel
theorem dX7_init_19 : decode cX7_init 19 = .ok (.aload_n 0, 1) := by decide +kernel
theorem dX7_init_20 : decode cX7_init 20 = .ok (.iload_n 2, 1) := by decide +kernel
theorem dX7_init_21 : decode cX7_init 21 = .ok (.iconst 1, 1) := by decide +kernel
theorem dX7_init_22 : decode cX7_init 22 = .ok (.iadd, 1) := by decide +kernel
theorem dX7_init_23 : decode cX7_init 23 = .ok (.newarray .int, 2) := by decide +kernel
theorem dX7_init_25 : decode cX7_init 25 = .ok (.putfield 20, 3) := by decide +kernel
theorem dX7_init_28 : decode cX7_init 28 = .ok (.return_, 1) := by decide +kernel
theorem dX7_value_0 : decode cX7_value 0 = .ok (.iconst 0, 1) := by decide +kernel
theorem dX7_value_1 : decode cX7_value 1 = .ok (.istore 4, 2) := by decide +kernel
theorem dX7_value_3 : decode cX7_value 3 = .ok (.iconst 0, 1) := by decide +kernel
theorem dX7_value_4 : decode cX7_value 4 = .ok (.istore 5, 2) := by decide +kernel
theorem dX7_value_6 : decode cX7_value 6 = .ok (.iload 5, 2) := by decide +kernel
theorem dX7_value_8 : decode cX7_value 8 = .ok (.aload_n 0, 1) := by decide +kernel
theorem dX7_value_9 : decode cX7_value 9 = .ok (.getfield 16, 3) := by decide +kernel
theorem dX7_value_12 : decode cX7_value 12 = .ok (.arraylength, 1) := by decide +kernel
theorem dX7_value_13 : decode cX7_value 13 = .ok (.if_icmp .ge 139, 3) := by decide +kernel
theorem dX7_value_16 : decode cX7_value 16 = .ok (.aload_n 0, 1) := by decide +kernel
theorem dX7_value_17 : decode cX7_value 17 = .ok (.getfield 16, 3) := by decide +kernel
theorem dX7_value_20 : decode cX7_value 20 = .ok (.iload 5, 2) := by decide +kernel
theorem dX7_value_22 : decode cX7_value 22 = .ok (.iaload, 1) := by decide +kernel
theorem dX7_value_23 : decode cX7_value 23 = .ok (.istore 6, 2) := by decide +kernel
theorem dX7_value_25 : decode cX7_value 25 = .ok (.iload 6, 2) := by decide +kernel
theorem dX7_value_27 : decode cX7_value 27 = .ok (.bipush (-3), 2) := by decide +kernel
theorem dX7_value_29 : decode cX7_value 29 = .ok (.if_icmp .lt 48, 3) := by decide +kernel
theorem dX7_value_32 : decode cX7_value 32 = .ok (.iinc 4 1, 3) := by decide +kernel
theorem dX7_value_35 : decode cX7_value 35 = .ok (.aload_n 0, 1) := by decide +kernel
theorem dX7_value_36 : decode cX7_value 36 = .ok (.getfield 20, 3) := by decide +kernel
theorem dX7_value_39 : decode cX7_value 39 = .ok (.iload 4, 2) := by decide +kernel
theorem dX7_value_41 : decode cX7_value 41 = .ok (.iload 6, 2) := by decide +kernel
theorem dX7_value_43 : decode cX7_value 43 = .ok (.ifCond .lt 8, 3) := by decide +kernel
theorem dX7_value_46 : decode cX7_value 46 = .ok (.iload 6, 2) := by decide +kernel
theorem dX7_value_48 : decode cX7_value 48 = .ok (.goto 25, 3) := by decide +kernel
theorem dX7_value_51 : decode cX7_value 51 = .ok (.iload 6, 2) := by decide +kernel
theorem dX7_value_53 : decode cX7_value 53 = .ok (.iconst (-1), 1) := by decide +kernel
theorem dX7_value_54 : decode cX7_value 54 = .ok (.if_icmp .ne 7, 3) := by decide +kernel
theorem dX7_value_57 : decode cX7_value 57 = .ok (.iload_n 1, 1) := by decide +kernel
theorem dX7_value_58 : decode cX7_value 58 = .ok (.goto 15, 3) := by decide +kernel
theorem dX7_value_61 : decode cX7_value 61 = .ok (.iload 6, 2) := by decide +kernel
theorem dX7_value_63 : decode cX7_value 63 = .ok (.bipush (-3), 2) := by decide +kernel
theorem dX7_value_65 : decode cX7_value 65 = .ok (.if_icmp .ne 7, 3) := by decide +kernel
theorem dX7_value_68 : decode cX7_value 68 = .ok (.iload_n 3, 1) := by decide +kernel
theorem dX7_value_69 : decode cX7_value 69 = .ok (.goto 4, 3) := by decide +kernel
theorem dX7_value_72 : decode cX7_value 72 = .ok (.iload_n 2, 1) := by decide +kernel
theorem dX7_value_73 : decode cX7_value 73 = .ok (.iastore, 1) := by decide +kernel
theorem dX7_value_74 : decode cX7_value 74 = .ok (.goto 72, 3) := by decide +kernel
theorem dX7_value_77 : decode cX7_value 77 = .ok (.iload 6, 2) := by decide +kernel
theorem dX7_value_79 : decode cX7_value 79 = .ok (.bipush (-33), 2) := by decide +kernel
theorem dX7_value_81 : decode cX7_value 81 = .ok (.if_icmp .ne 28, 3) := by decide +kernel
theorem dX7_value_84 : decode cX7_value 84 = .ok (.aload_n 0, 1) := by decide +kernel
theorem dX7_value_85 : decode cX7_value 85 = .ok (.getfield 20, 3) := by decide +kernel
theorem dX7_value_88 : decode cX7_value 88 = .ok (.iload 4, 2) := by decide +kernel
theorem dX7_value_90 : decode cX7_value 90 = .ok (.aload_n 0, 1) := by decide +kernel
theorem dX7_value_91 : decode cX7_value 91 = .ok (.getfield 20, 3) := by decide +kernel
theorem dX7_value_94 : decode cX7_value 94 = .ok (.iload 4, 2) := by decide +kernel
theorem dX7_value_96 : decode cX7_value 96 = .ok (.iaload, 1) := by decide +kernel
theorem dX7_value_97 : decode cX7_value 97 = .ok (.ifCond .ne 7, 3) := by decide +kernel
theorem dX7_value_100 : decode cX7_value 100 = .ok (.iconst 1, 1) := by decide +kernel
theorem dX7_value_101 : decode cX7_value 101 = .ok (.goto 4, 3) := by decide +kernel
theorem dX7_value_104 : decode cX7_value 104 = .ok (.iconst 0, 1) := by decide +kernel
theorem dX7_value_105 : decode cX7_value 105 = .ok (.iastore, 1) := by decide +kernel
theorem dX7_value_106 : decode cX7_value 106 = .ok (.goto 40, 3) := by decide +kernel
theorem dX7_value_109 : decode cX7_value 109 = .ok (.iload 4, 2) := by decide +kernel
theorem dX7_value_111 : decode cX7_value 111 = .ok (.ifCond .le 35, 3) := by decide +kernel
theorem dX7_value_114 : decode cX7_value 114 = .ok (.iinc 4 (-1), 3) := by decide +kernel
theorem dX7_value_117 : decode cX7_value 117 = .ok (.aload_n 0, 1) := by decide +kernel
theorem dX7_value_118 : decode cX7_value 118 = .ok (.getfield 20, 3) := by decide +kernel
theorem dX7_value_121 : decode cX7_value 121 = .ok (.iload 4, 2) := by decide +kernel
theorem dX7_value_123 : decode cX7_value 123 = .ok (.iload 6, 2) := by decide +kernel
theorem dX7_value_125 : decode cX7_value 125 = .ok (.ineg, 1) := by decide +kernel
theorem dX7_value_126 : decode cX7_value 126 = .ok (.aload_n 0, 1) := by decide +kernel
theorem dX7_value_127 : decode cX7_value 127 = .ok (.getfield 20, 3) := by decide +kernel
theorem dX7_value_130 : decode cX7_value 130 = .ok (.iload 4, 2) := by decide +kernel
theorem dX7_value_132 : decode cX7_value 132 = .ok (.iaload, 1) := by decide +kernel
theorem dX7_value_133 : decode cX7_value 133 = .ok (.aload_n 0, 1) := by decide +kernel
theorem dX7_value_134 : decode cX7_value 134 = .ok (.getfield 20, 3) := by decide +kernel
theorem dX7_value_137 : decode cX7_value 137 = .ok (.iload 4, 2) := by decide +kernel
theorem dX7_value_139 : decode cX7_value 139 = .ok (.iconst 1, 1) := by decide +kernel
theorem dX7_value_140 : decode cX7_value 140 = .ok (.iadd, 1) := by decide +kernel
theorem dX7_value_141 : decode cX7_value 141 = .ok (.iaload, 1) := by decide +kernel
theorem dX7_value_142 : decode cX7_value 142 = .ok (.invokestatic 23, 3) := by decide +kernel
theorem dX7_value_145 : decode cX7_value 145 = .ok (.iastore, 1) := by decide +kernel
theorem dX7_value_146 : decode cX7_value 146 = .ok (.iinc 5 1, 3) := by decide +kernel
theorem dX7_value_149 : decode cX7_value 149 = .ok (.goto (-143), 3) := by decide +kernel
theorem dX7_value_152 : decode cX7_value 152 = .ok (.aload_n 0, 1) := by decide +kernel
theorem dX7_value_153 : decode cX7_value 153 = .ok (.getfield 20, 3) := by decide +kernel
theorem dX7_value_156 : decode cX7_value 156 = .ok (.iload 4, 2) := by decide +kernel
theorem dX7_value_158 : decode cX7_value 158 = .ok (.iaload, 1) := by decide +kernel
theorem dX7_value_159 : decode cX7_value 159 = .ok (.ireturn, 1) := by decide +kernel
theorem dX7_join_0 : decode cX7_join 0 = .ok (.iload_n 0, 1) := by decide +kernel
theorem dX7_join_1 : decode cX7_join 1 = .ok (.lookupswitch 168 #[(38, 97), (42, 152), (43, 144), (45, 148), (47, 156), (60, 111), (61, 122), (62, 133), (124, 83)], 83) := by decide +kernel
theorem dX7_join_84 : decode cX7_join 84 = .ok (.iload_n 1, 1) := by decide +kernel
theorem dX7_join_85 : decode cX7_join 85 = .ok (.ifCond .ne 7, 3) := by decide +kernel
theorem dX7_join_88 : decode cX7_join 88 = .ok (.iload_n 2, 1) := by decide +kernel
theorem dX7_join_89 : decode cX7_join 89 = .ok (.ifCond .eq 7, 3) := by decide +kernel
theorem dX7_join_92 : decode cX7_join 92 = .ok (.iconst 1, 1) := by decide +kernel
theorem dX7_join_93 : decode cX7_join 93 = .ok (.goto 4, 3) := by decide +kernel
theorem dX7_join_96 : decode cX7_join 96 = .ok (.iconst 0, 1) := by decide +kernel
theorem dX7_join_97 : decode cX7_join 97 = .ok (.ireturn, 1) := by decide +kernel
theorem dX7_join_98 : decode cX7_join 98 = .ok (.iload_n 1, 1) := by decide +kernel
theorem dX7_join_99 : decode cX7_join 99 = .ok (.ifCond .eq 11, 3) := by decide +kernel
theorem dX7_join_102 : decode cX7_join 102 = .ok (.iload_n 2, 1) := by decide +kernel
theorem dX7_join_103 : decode cX7_join 103 = .ok (.ifCond .eq 7, 3) := by decide +kernel
theorem dX7_join_106 : decode cX7_join 106 = .ok (.iconst 1, 1) := by decide +kernel
theorem dX7_join_107 : decode cX7_join 107 = .ok (.goto 4, 3) := by decide +kernel
theorem dX7_join_110 : decode cX7_join 110 = .ok (.iconst 0, 1) := by decide +kernel
theorem dX7_join_111 : decode cX7_join 111 = .ok (.ireturn, 1) := by decide +kernel
theorem dX7_join_112 : decode cX7_join 112 = .ok (.iload_n 1, 1) := by decide +kernel
theorem dX7_join_113 : decode cX7_join 113 = .ok (.iload_n 2, 1) := by decide +kernel
theorem dX7_join_114 : decode cX7_join 114 = .ok (.if_icmp .ge 7, 3) := by decide +kernel
theorem dX7_join_117 : decode cX7_join 117 = .ok (.iconst 1, 1) := by decide +kernel
theorem dX7_join_118 : decode cX7_join 118 = .ok (.goto 4, 3) := by decide +kernel
theorem dX7_join_121 : decode cX7_join 121 = .ok (.iconst 0, 1) := by decide +kernel
theorem dX7_join_122 : decode cX7_join 122 = .ok (.ireturn, 1) := by decide +kernel
theorem dX7_join_123 : decode cX7_join 123 = .ok (.iload_n 1, 1) := by decide +kernel
theorem dX7_join_124 : decode cX7_join 124 = .ok (.iload_n 2, 1) := by decide +kernel
theorem dX7_join_125 : decode cX7_join 125 = .ok (.if_icmp .ne 7, 3) := by decide +kernel
theorem dX7_join_128 : decode cX7_join 128 = .ok (.iconst 1, 1) := by decide +kernel
theorem dX7_join_129 : decode cX7_join 129 = .ok (.goto 4, 3) := by decide +kernel
theorem dX7_join_132 : decode cX7_join 132 = .ok (.iconst 0, 1) := by decide +kernel
theorem dX7_join_133 : decode cX7_join 133 = .ok (.ireturn, 1) := by decide +kernel
theorem dX7_join_134 : decode cX7_join 134 = .ok (.iload_n 1, 1) := by decide +kernel
theorem dX7_join_135 : decode cX7_join 135 = .ok (.iload_n 2, 1) := by decide +kernel
theorem dX7_join_136 : decode cX7_join 136 = .ok (.if_icmp .le 7, 3) := by decide +kernel
theorem dX7_join_139 : decode cX7_join 139 = .ok (.iconst 1, 1) := by decide +kernel
theorem dX7_join_140 : decode cX7_join 140 = .ok (.goto 4, 3) := by decide +kernel
theorem dX7_join_143 : decode cX7_join 143 = .ok (.iconst 0, 1) := by decide +kernel
theorem dX7_join_144 : decode cX7_join 144 = .ok (.ireturn, 1) := by decide +kernel
theorem dX7_join_145 : decode cX7_join 145 = .ok (.iload_n 1, 1) := by decide +kernel
theorem dX7_join_146 : decode cX7_join 146 = .ok (.iload_n 2, 1) := by decide +kernel
theorem dX7_join_147 : decode cX7_join 147 = .ok (.iadd, 1) := by decide +kernel
theorem dX7_join_148 : decode cX7_join 148 = .ok (.ireturn, 1) := by decide +kernel
theorem dX7_join_149 : decode cX7_join 149 = .ok (.iload_n 1, 1) := by decide +kernel
theorem dX7_join_150 : decode cX7_join 150 = .ok (.iload_n 2, 1) := by decide +kernel
theorem dX7_join_151 : decode cX7_join 151 = .ok (.isub, 1) := by decide +kernel
theorem dX7_join_152 : decode cX7_join 152 = .ok (.ireturn, 1) := by decide +kernel
theorem dX7_join_153 : decode cX7_join 153 = .ok (.iload_n 1, 1) := by decide +kernel
theorem dX7_join_154 : decode cX7_join 154 = .ok (.iload_n 2, 1) := by decide +kernel
theorem dX7_join_155 : decode cX7_join 155 = .ok (.imul, 1) := by decide +kernel
theorem dX7_join_156 : decode cX7_join 156 = .ok (.ireturn, 1) := by decide +kernel
theorem dX7_join_157 : decode cX7_join 157 = .ok (.iload_n 2, 1) := by decide +kernel
theorem dX7_join_158 : decode cX7_join 158 = .ok (.ifCond .ne 7, 3) := by decide +kernel
theorem dX7_join_161 : decode cX7_join 161 = .ok (.iconst 0, 1) := by decide +kernel
theorem dX7_join_162 : decode cX7_join 162 = .ok (.goto 6, 3) := by decide +kernel
theorem dX7_join_165 : decode cX7_join 165 = .ok (.iload_n 1, 1) := by decide +kernel
theorem dX7_join_166 : decode cX7_join 166 = .ok (.iload_n 2, 1) := by decide +kernel
theorem dX7_join_167 : decode cX7_join 167 = .ok (.idiv, 1) := by decide +kernel
theorem dX7_join_168 : decode cX7_join 168 = .ok (.ireturn, 1) := by decide +kernel
theorem dX7_join_169 : decode cX7_join 169 = .ok (.iconst 0, 1) := by decide +kernel
theorem dX7_join_170 : decode cX7_join 170 = .ok (.ireturn, 1) := by decide +kernel
theorem dX8_init_0 : decode cX8_init 0 = .ok (.aload_n 0, 1) := by decide +kernel
theorem dX8_init_1 : decode cX8_init 1 = .ok (.invokespecial 1, 3) := by decide +kernel
theorem dX8_init_4 : decode cX8_init 4 = .ok (.aload_n 0, 1) := by decide +kernel
theorem dX8_init_5 : decode cX8_init 5 = .ok (.new 7, 3) := by decide +kernel
theorem dX8_init_8 : decode cX8_init 8 = .ok (.dup, 1) := by decide +kernel
theorem dX8_init_9 : decode cX8_init 9 = .ok (.invokespecial 9, 3) := by decide +kernel
theorem dX8_init_12 : decode cX8_init 12 = .ok (.putfield 10, 3) := by decide +kernel
theorem dX8_init_15 : decode cX8_init 15 = .ok (.aload_n 0, 1) := by decide +kernel
theorem dX8_init_16 : decode cX8_init 16 = .ok (.new 7, 3) := by decide +kernel
theorem dX8_init_19 : decode cX8_init 19 = .ok (.dup, 1) := by decide +kernel
theorem dX8_init_20 : decode cX8_init 20 = .ok (.invokespecial 9, 3) := by decide +kernel
theorem dX8_init_23 : decode cX8_init 23 = .ok (.putfield 16, 3) := by decide +kernel
theorem dX8_init_26 : decode cX8_init 26 = .ok (.aload_n 0, 1) := by decide +kernel
theorem dX8_init_27 : decode cX8_init 27 = .ok (.new 7, 3) := by decide +kernel
theorem dX8_init_30 : decode cX8_init 30 = .ok (.dup, 1) := by decide +kernel
theorem dX8_init_31 : decode cX8_init 31 = .ok (.invokespecial 9, 3) := by decide +kernel
theorem dX8_init_34 : decode cX8_init 34 = .ok (.putfield 19, 3) := by decide +kernel
theorem dX8_init_37 : decode cX8_init 37 = .ok (.aload_n 0, 1) := by decide +kernel
theorem dX8_init_38 : decode cX8_init 38 = .ok (.new 22, 3) := by decide +kernel
theorem dX8_init_41 : decode cX8_init 41 = .ok (.dup, 1) := by decide +kernel
theorem dX8_init_42 : decode cX8_init 42 = .ok (.invokespecial 24, 3) := by decide +kernel
theorem dX8_init_45 : decode cX8_init 45 = .ok (.putfield 25, 3) := by decide +kernel
theorem dX8_init_48 : decode cX8_init 48 = .ok (.aload_n 0, 1) := by decide +kernel
theorem dX8_init_49 : decode cX8_init 49 = .ok (.new 29, 3) := by decide +kernel
theorem dX8_init_52 : decode cX8_init 52 = .ok (.dup, 1) := by decide +kernel
theorem dX8_init_53 : decode cX8_init 53 = .ok (.invokespecial 31, 3) := by decide +kernel
theorem dX8_init_56 : decode cX8_init 56 = .ok (.putfield 32, 3) := by decide +kernel
theorem dX8_init_59 : decode cX8_init 59 = .ok (.aload_n 0, 1) := by decide +kernel
theorem dX8_init_60 : decode cX8_init 60 = .ok (.iconst 4, 1) := by decide +kernel
theorem dX8_init_61 : decode cX8_init 61 = .ok (.anewarray 36, 3) := by decide +kernel
theorem dX8_init_64 : decode cX8_init 64 = .ok (.putfield 38, 3) := by decide +kernel
theorem dX8_init_67 : decode cX8_init 67 = .ok (.aload_n 0, 1) := by decide +kernel
theorem dX8_init_68 : decode cX8_init 68 = .ok (.iconst 5, 1) := by decide +kernel
theorem dX8_init_69 : decode cX8_init 69 = .ok (.anewarray 42, 3) := by decide +kernel
theorem dX8_init_72 : decode cX8_init 72 = .ok (.putfield 44, 3) := by decide +kernel
theorem dX8_init_75 : decode cX8_init 75 = .ok (.aload_n 0, 1) := by decide +kernel
theorem dX8_init_76 : decode cX8_init 76 = .ok (.bipush 60, 2) := by decide +kernel
theorem dX8_init_78 : decode cX8_init 78 = .ok (.newarray .int, 2) := by decide +kernel
theorem dX8_init_80 : decode cX8_init 80 = .ok (.putfield 48, 3) := by decide +kernel
theorem dX8_init_83 : decode cX8_init 83 = .ok (.iconst 0, 1) := by decide +kernel
theorem dX8_init_84 : decode cX8_init 84 = .ok (.istore_n 1, 1) := by decide +kernel
theorem dX8_init_85 : decode cX8_init 85 = .ok (.iload_n 1, 1) := by decide +kernel
theorem dX8_init_86 : decode cX8_init 86 = .ok (.iconst 4, 1) := by decide +kernel
theorem dX8_init_87 : decode cX8_init 87 = .ok (.if_icmp .ge 22, 3) := by decide +kernel
theorem dX8_init_90 : decode cX8_init 90 = .ok (.aload_n 0, 1) := by decide +kernel
theorem dX8_init_91 : decode cX8_init 91 = .ok (.getfield 38, 3) := by decide +kernel
theorem dX8_init_94 : decode cX8_init 94 = .ok (.iload_n 1, 1) := by decide +kernel
theorem dX8_init_95 : decode cX8_init 95 = .ok (.new 36, 3) := by decide +kernel
theorem dX8_init_98 : decode cX8_init 98 = .ok (.dup, 1) := by decide +kernel
theorem dX8_init_99 : decode cX8_init 99 = .ok (.invokespecial 52, 3) := by decide +kernel
theorem dX8_init_102 : decode cX8_init 102 = .ok (.aastore, 1) := by decide +kernel
theorem dX8_init_103 : decode cX8_init 103 = .ok (.iinc 1 1, 3) := by decide +kernel
theorem dX8_init_106 : decode cX8_init 106 = .ok (.goto (-21), 3) := by decide +kernel
theorem dX8_init_109 : decode cX8_init 109 = .ok (.iconst 0, 1) := by decide +kernel
theorem dX8_init_110 : decode cX8_init 110 = .ok (.istore_n 1, 1) := by decide +kernel
theorem dX8_init_111 : decode cX8_init 111 = .ok (.iload_n 1, 1) := by decide +kernel
theorem dX8_init_112 : decode cX8_init 112 = .ok (.iconst 5, 1) := by decide +kernel
theorem dX8_init_113 : decode cX8_init 113 = .ok (.if_icmp .ge 22, 3) := by decide +kernel
theorem dX8_init_116 : decode cX8_init 116 = .ok (.aload_n 0, 1) := by decide +kernel
theorem dX8_init_117 : decode cX8_init 117 = .ok (.getfield 44, 3) := by decide +kernel
theorem dX8_init_120 : decode cX8_init 120 = .ok (.iload_n 1, 1) := by decide +kernel
theorem dX8_init_121 : decode cX8_init 121 = .ok (.new 42, 3) := by decide +kernel
theorem dX8_init_124 : decode cX8_init 124 = .ok (.dup, 1) := by decide +kernel
theorem dX8_init_125 : decode cX8_init 125 = .ok (.invokespecial 53, 3) := by decide +kernel
theorem dX8_init_128 : decode cX8_init 128 = .ok (.aastore, 1) := by decide +kernel
theorem dX8_init_129 : decode cX8_init 129 = .ok (.iinc 1 1, 3) := by decide +kernel
theorem dX8_init_132 : decode cX8_init 132 = .ok (.goto (-21), 3) := by decide +kernel
theorem dX8_init_135 : decode cX8_init 135 = .ok (.return_, 1) := by decide +kernel
theorem dX8_bench_0 : decode cX8_bench 0 = .ok (.iload_n 1, 1) := by decide +kernel
theorem dX8_bench_1 : decode cX8_bench 1 = .ok (.iconst 1, 1) := by decide +kernel
theorem dX8_bench_2 : decode cX8_bench 2 = .ok (.bipush 12, 2) := by decide +kernel
theorem dX8_bench_4 : decode cX8_bench 4 = .ok (.invokestatic 54, 3) := by decide +kernel
theorem dX8_bench_7 : decode cX8_bench 7 = .ok (.ifCond .eq 21, 3) := by decide +kernel
theorem dX8_bench_10 : decode cX8_bench 10 = .ok (.iload_n 2, 1) := by decide +kernel
theorem dX8_bench_11 : decode cX8_bench 11 = .ok (.iconst 0, 1) := by decide +kernel
theorem dX8_bench_12 : decode cX8_bench 12 = .ok (.iconst 1, 1) := by decide +kernel
theorem dX8_bench_13 : decode cX8_bench 13 = .ok (.invokestatic 54, 3) := by decide +kernel
theorem dX8_bench_16 : decode cX8_bench 16 = .ok (.ifCond .eq 12, 3) := by decide +kernel
theorem dX8_bench_19 : decode cX8_bench 19 = .ok (.iload_n 3, 1) := by decide +kernel
theorem dX8_bench_20 : decode cX8_bench 20 = .ok (.iconst 0, 1) := by decide +kernel
theorem dX8_bench_21 : decode cX8_bench 21 = .ok (.iconst 1, 1) := by decide +kernel
theorem dX8_bench_22 : decode cX8_bench 22 = .ok (.invokestatic 54, 3) := by decide +kernel
theorem dX8_bench_25 : decode cX8_bench 25 = .ok (.ifCond .ne 6, 3) := by decide +kernel
theorem dX8_bench_28 : decode cX8_bench 28 = .ok (.ldc 58, 2) := by decide +kernel
theorem dX8_bench_30 : decode cX8_bench 30 = .ok (.ireturn, 1) := by decide +kernel
theorem dX8_bench_31 : decode cX8_bench 31 = .ok (.aload_n 0, 1) := by decide +kernel
theorem dX8_bench_32 : decode cX8_bench 32 = .ok (.getfield 10, 3) := by decide +kernel
theorem dX8_bench_35 : decode cX8_bench 35 = .ok (.iload_n 1, 1) := by decide +kernel
theorem dX8_bench_36 : decode cX8_bench 36 = .ok (.iload_n 2, 1) := by decide +kernel
theorem dX8_bench_37 : decode cX8_bench 37 = .ok (.iload_n 3, 1) := by decide +kernel
theorem dX8_bench_38 : decode cX8_bench 38 = .ok (.invokevirtual 59, 3) := by decide +kernel
theorem dX8_bench_41 : decode cX8_bench 41 = .ok (.ireturn, 1) := by decide +kernel
theorem dX8_sitter_0 : decode cX8_sitter 0 = .ok (.iload_n 1, 1) := by decide +kernel
theorem dX8_sitter_1 : decode cX8_sitter 1 = .ok (.invokestatic 63, 3) := by decide +kernel
theorem dX8_sitter_4 : decode cX8_sitter 4 = .ok (.ifCond .eq 14, 3) := by decide +kernel
theorem dX8_sitter_7 : decode cX8_sitter 7 = .ok (.aload_n 0, 1) := by decide +kernel
theorem dX8_sitter_8 : decode cX8_sitter 8 = .ok (.getfield 10, 3) := by decide +kernel
theorem dX8_sitter_11 : decode cX8_sitter 11 = .ok (.iload_n 1, 1) := by decide +kernel
theorem dX8_sitter_12 : decode cX8_sitter 12 = .ok (.invokevirtual 67, 3) := by decide +kernel
theorem dX8_sitter_15 : decode cX8_sitter 15 = .ok (.goto 5, 3) := by decide +kernel
theorem dX8_sitter_18 : decode cX8_sitter 18 = .ok (.ldc 58, 2) := by decide +kernel
theorem dX8_sitter_20 : decode cX8_sitter 20 = .ok (.ireturn, 1) := by decide +kernel
theorem dX8_told_0 : decode cX8_told 0 = .ok (.aload_n 0, 1) := by decide +kernel
theorem dX8_told_1 : decode cX8_told 1 = .ok (.iload_n 1, 1) := by decide +kernel
theorem dX8_told_2 : decode cX8_told 2 = .ok (.invokevirtual 71, 3) := by decide +kernel
theorem dX8_told_5 : decode cX8_told 5 = .ok (.ifCond .ne 6, 3) := by decide +kernel
theorem dX8_told_8 : decode cX8_told 8 = .ok (.ldc 58, 2) := by decide +kernel
theorem dX8_told_10 : decode cX8_told 10 = .ok (.ireturn, 1) := by decide +kernel
theorem dX8_told_11 : decode cX8_told 11 = .ok (.aload_n 0, 1) := by decide +kernel
theorem dX8_told_12 : decode cX8_told 12 = .ok (.getfield 10, 3) := by decide +kernel
theorem dX8_told_15 : decode cX8_told 15 = .ok (.getfield 74, 3) := by decide +kernel
theorem dX8_told_18 : decode cX8_told 18 = .ok (.iload_n 1, 1) := by decide +kernel
theorem dX8_told_19 : decode cX8_told 19 = .ok (.aaload, 1) := by decide +kernel
theorem dX8_told_20 : decode cX8_told 20 = .ok (.astore_n 3, 1) := by decide +kernel
theorem dX8_told_21 : decode cX8_told 21 = .ok (.iload_n 2, 1) := by decide +kernel
theorem dX8_told_22 : decode cX8_told 22 = .ok (.tableswitch 85 0 6 #[42, 47, 52, 57, 62, 71, 80], 42) := by decide +kernel
theorem dX8_told_64 : decode cX8_told 64 = .ok (.aload_n 3, 1) := by decide +kernel
theorem dX8_told_65 : decode cX8_told 65 = .ok (.getfield 78, 3) := by decide +kernel
theorem dX8_told_68 : decode cX8_told 68 = .ok (.ireturn, 1) := by decide +kernel
theorem dX8_told_69 : decode cX8_told 69 = .ok (.aload_n 3, 1) := by decide +kernel
theorem dX8_told_70 : decode cX8_told 70 = .ok (.getfield 84, 3) := by decide +kernel
theorem dX8_told_73 : decode cX8_told 73 = .ok (.ireturn, 1) := by decide +kernel
theorem dX8_told_74 : decode cX8_told 74 = .ok (.aload_n 3, 1) := by decide +kernel
theorem dX8_told_75 : decode cX8_told 75 = .ok (.getfield 87, 3) := by decide +kernel
theorem dX8_told_78 : decode cX8_told 78 = .ok (.ireturn, 1) := by decide +kernel
theorem dX8_told_79 : decode cX8_told 79 = .ok (.aload_n 3, 1) := by decide +kernel
theorem dX8_told_80 : decode cX8_told 80 = .ok (.getfield 90, 3) := by decide +kernel
theorem dX8_told_83 : decode cX8_told 83 = .ok (.ireturn, 1) := by decide +kernel
theorem dX8_told_84 : decode cX8_told 84 = .ok (.aload_n 0, 1) := by decide +kernel
theorem dX8_told_85 : decode cX8_told 85 = .ok (.getfield 10, 3) := by decide +kernel
theorem dX8_told_88 : decode cX8_told 88 = .ok (.aload_n 3, 1) := by decide +kernel
theorem dX8_told_89 : decode cX8_told 89 = .ok (.invokevirtual 93, 3) := by decide +kernel
theorem dX8_told_92 : decode cX8_told 92 = .ok (.ireturn, 1) := by decide +kernel
theorem dX8_told_93 : decode cX8_told 93 = .ok (.aload_n 0, 1) := by decide +kernel
theorem dX8_told_94 : decode cX8_told 94 = .ok (.getfield 10, 3) := by decide +kernel
theorem dX8_told_97 : decode cX8_told 97 = .ok (.aload_n 3, 1) := by decide +kernel
theorem dX8_told_98 : decode cX8_told 98 = .ok (.invokevirtual 97, 3) := by decide +kernel
theorem dX8_told_101 : decode cX8_told 101 = .ok (.ireturn, 1) := by decide +kernel
theorem dX8_told_102 : decode cX8_told 102 = .ok (.aload_n 3, 1) := by decide +kernel
theorem dX8_told_103 : decode cX8_told 103 = .ok (.invokevirtual 100, 3) := by decide +kernel
theorem dX8_told_106 : decode cX8_told 106 = .ok (.ireturn, 1) := by decide +kernel
theorem dX8_told_107 : decode cX8_told 107 = .ok (.ldc 58, 2) := by decide +kernel
theorem dX8_told_109 : decode cX8_told 109 = .ok (.ireturn, 1) := by decide +kernel
theorem dX8_as_0 : decode cX8_as 0 = .ok (.aload_n 0, 1) := by decide +kernel
theorem dX8_as_1 : decode cX8_as 1 = .ok (.iload_n 1, 1) := by decide +kernel
theorem dX8_as_2 : decode cX8_as 2 = .ok (.invokevirtual 71, 3) := by decide +kernel
theorem dX8_as_5 : decode cX8_as 5 = .ok (.ifCond .eq 10, 3) := by decide +kernel
theorem dX8_as_8 : decode cX8_as 8 = .ok (.iload_n 2, 1) := by decide +kernel
theorem dX8_as_9 : decode cX8_as 9 = .ok (.invokestatic 63, 3) := by decide +kernel
theorem dX8_as_12 : decode cX8_as 12 = .ok (.ifCond .ne 6, 3) := by decide +kernel
theorem dX8_as_15 : decode cX8_as 15 = .ok (.ldc 58, 2) := by decide +kernel
theorem dX8_as_17 : decode cX8_as 17 = .ok (.ireturn, 1) := by decide +kernel
theorem dX8_as_18 : decode cX8_as 18 = .ok (.aload_n 0, 1) := by decide +kernel
theorem dX8_as_19 : decode cX8_as 19 = .ok (.getfield 10, 3) := by decide +kernel
theorem dX8_as_22 : decode cX8_as 22 = .ok (.getfield 74, 3) := by decide +kernel
theorem dX8_as_25 : decode cX8_as 25 = .ok (.iload_n 1, 1) := by decide +kernel
theorem dX8_as_26 : decode cX8_as 26 = .ok (.aaload, 1) := by decide +kernel
theorem dX8_as_27 : decode cX8_as 27 = .ok (.astore_n 3, 1) := by decide +kernel
theorem dX8_as_28 : decode cX8_as 28 = .ok (.aload_n 3, 1) := by decide +kernel
theorem dX8_as_29 : decode cX8_as 29 = .ok (.iload_n 2, 1) := by decide +kernel
theorem dX8_as_30 : decode cX8_as 30 = .ok (.invokevirtual 104, 3) := by decide +kernel
theorem dX8_as_33 : decode cX8_as 33 = .ok (.ifCond .eq 10, 3) := by decide +kernel
theorem dX8_as_36 : decode cX8_as 36 = .ok (.aload_n 3, 1) := by decide +kernel
theorem dX8_as_37 : decode cX8_as 37 = .ok (.getfield 90, 3) := by decide +kernel
theorem dX8_as_40 : decode cX8_as 40 = .ok (.goto 5, 3) := by decide +kernel
theorem dX8_as_43 : decode cX8_as 43 = .ok (.ldc 107, 2) := by decide +kernel
theorem dX8_as_45 : decode cX8_as 45 = .ok (.ireturn, 1) := by decide +kernel
theorem dX8_turns_0 : decode cX8_turns 0 = .ok (.aload_n 0, 1) := by decide +kernel
theorem dX8_turns_1 : decode cX8_turns 1 = .ok (.iload_n 1, 1) := by decide +kernel
theorem dX8_turns_2 : decode cX8_turns 2 = .ok (.invokevirtual 71, 3) := by decide +kernel
theorem dX8_turns_5 : decode cX8_turns 5 = .ok (.ifCond .eq 10, 3) := by decide +kernel
theorem dX8_turns_8 : decode cX8_turns 8 = .ok (.iload_n 2, 1) := by decide +kernel
theorem dX8_turns_9 : decode cX8_turns 9 = .ok (.invokestatic 63, 3) := by decide +kernel
theorem dX8_turns_12 : decode cX8_turns 12 = .ok (.ifCond .ne 6, 3) := by decide +kernel
theorem dX8_turns_15 : decode cX8_turns 15 = .ok (.ldc 58, 2) := by decide +kernel
theorem dX8_turns_17 : decode cX8_turns 17 = .ok (.ireturn, 1) := by decide +kernel
theorem dX8_turns_18 : decode cX8_turns 18 = .ok (.aload_n 0, 1) := by decide +kernel
theorem dX8_turns_19 : decode cX8_turns 19 = .ok (.getfield 10, 3) := by decide +kernel
theorem dX8_turns_22 : decode cX8_turns 22 = .ok (.getfield 74, 3) := by decide +kernel
theorem dX8_turns_25 : decode cX8_turns 25 = .ok (.iload_n 1, 1) := by decide +kernel
theorem dX8_turns_26 : decode cX8_turns 26 = .ok (.aaload, 1) := by decide +kernel
theorem dX8_turns_27 : decode cX8_turns 27 = .ok (.astore_n 3, 1) := by decide +kernel
theorem dX8_turns_28 : decode cX8_turns 28 = .ok (.aload_n 3, 1) := by decide +kernel
theorem dX8_turns_29 : decode cX8_turns 29 = .ok (.invokevirtual 108, 3) := by decide +kernel
theorem dX8_turns_32 : decode cX8_turns 32 = .ok (.ifCond .eq 6, 3) := by decide +kernel
theorem dX8_turns_35 : decode cX8_turns 35 = .ok (.ldc 112, 2) := by decide +kernel
theorem dX8_turns_37 : decode cX8_turns 37 = .ok (.ireturn, 1) := by decide +kernel
theorem dX8_turns_38 : decode cX8_turns 38 = .ok (.aload_n 3, 1) := by decide +kernel
theorem dX8_turns_39 : decode cX8_turns 39 = .ok (.getfield 78, 3) := by decide +kernel
theorem dX8_turns_42 : decode cX8_turns 42 = .ok (.istore 4, 2) := by decide +kernel
theorem dX8_turns_44 : decode cX8_turns 44 = .ok (.aload_n 3, 1) := by decide +kernel
theorem dX8_turns_45 : decode cX8_turns 45 = .ok (.iload_n 2, 1) := by decide +kernel
theorem dX8_turns_46 : decode cX8_turns 46 = .ok (.putfield 78, 3) := by decide +kernel
theorem dX8_turns_49 : decode cX8_turns 49 = .ok (.iload 4, 2) := by decide +kernel
theorem dX8_turns_51 : decode cX8_turns 51 = .ok (.ireturn, 1) := by decide +kernel
theorem dX8_sits_0 : decode cX8_sits 0 = .ok (.aload_n 0, 1) := by decide +kernel
theorem dX8_sits_1 : decode cX8_sits 1 = .ok (.iload_n 1, 1) := by decide +kernel
theorem dX8_sits_2 : decode cX8_sits 2 = .ok (.invokevirtual 71, 3) := by decide +kernel
theorem dX8_sits_5 : decode cX8_sits 5 = .ok (.ifCond .eq 11, 3) := by decide +kernel
theorem dX8_sits_8 : decode cX8_sits 8 = .ok (.aload_n 0, 1) := by decide +kernel
theorem dX8_sits_9 : decode cX8_sits 9 = .ok (.iload_n 2, 1) := by decide +kernel
theorem dX8_sits_10 : decode cX8_sits 10 = .ok (.invokevirtual 113, 3) := by decide +kernel
theorem dX8_sits_13 : decode cX8_sits 13 = .ok (.ifCond .ne 6, 3) := by decide +kernel
theorem dX8_sits_16 : decode cX8_sits 16 = .ok (.ldc 58, 2) := by decide +kernel
theorem dX8_sits_18 : decode cX8_sits 18 = .ok (.ireturn, 1) := by decide +kernel
theorem dX8_sits_19 : decode cX8_sits 19 = .ok (.aload_n 0, 1) := by decide +kernel
theorem dX8_sits_20 : decode cX8_sits 20 = .ok (.getfield 10, 3) := by decide +kernel
theorem dX8_sits_23 : decode cX8_sits 23 = .ok (.getfield 74, 3) := by decide +kernel
theorem dX8_sits_26 : decode cX8_sits 26 = .ok (.iload_n 1, 1) := by decide +kernel
theorem dX8_sits_27 : decode cX8_sits 27 = .ok (.aaload, 1) := by decide +kernel
theorem dX8_sits_28 : decode cX8_sits 28 = .ok (.astore_n 3, 1) := by decide +kernel
theorem dX8_sits_29 : decode cX8_sits 29 = .ok (.aload_n 0, 1) := by decide +kernel
theorem dX8_sits_30 : decode cX8_sits 30 = .ok (.getfield 10, 3) := by decide +kernel
theorem dX8_sits_33 : decode cX8_sits 33 = .ok (.aload_n 3, 1) := by decide +kernel
theorem dX8_sits_34 : decode cX8_sits 34 = .ok (.invokevirtual 97, 3) := by decide +kernel
theorem dX8_sits_37 : decode cX8_sits 37 = .ok (.iload_n 2, 1) := by decide +kernel
theorem dX8_sits_38 : decode cX8_sits 38 = .ok (.invokestatic 116, 3) := by decide +kernel
theorem dX8_sits_41 : decode cX8_sits 41 = .ok (.ifCond .eq 15, 3) := by decide +kernel
theorem dX8_sits_44 : decode cX8_sits 44 = .ok (.aload_n 0, 1) := by decide +kernel
theorem dX8_sits_45 : decode cX8_sits 45 = .ok (.getfield 10, 3) := by decide +kernel
theorem dX8_sits_48 : decode cX8_sits 48 = .ok (.aload_n 3, 1) := by decide +kernel
theorem dX8_sits_49 : decode cX8_sits 49 = .ok (.iload_n 2, 1) := by decide +kernel
theorem dX8_sits_50 : decode cX8_sits 50 = .ok (.invokevirtual 120, 3) := by decide +kernel
theorem dX8_sits_53 : decode cX8_sits 53 = .ok (.goto 5, 3) := by decide +kernel
theorem dX8_sits_56 : decode cX8_sits 56 = .ok (.ldc 112, 2) := by decide +kernel
theorem dX8_sits_58 : decode cX8_sits 58 = .ok (.ireturn, 1) := by decide +kernel
theorem dX8_rises_0 : decode cX8_rises 0 = .ok (.aload_n 0, 1) := by decide +kernel
theorem dX8_rises_1 : decode cX8_rises 1 = .ok (.iload_n 1, 1) := by decide +kernel
theorem dX8_rises_2 : decode cX8_rises 2 = .ok (.invokevirtual 71, 3) := by decide +kernel
theorem dX8_rises_5 : decode cX8_rises 5 = .ok (.ifCond .ne 6, 3) := by decide +kernel
theorem dX8_rises_8 : decode cX8_rises 8 = .ok (.ldc 58, 2) := by decide +kernel
theorem dX8_rises_10 : decode cX8_rises 10 = .ok (.ireturn, 1) := by decide +kernel
theorem dX8_rises_11 : decode cX8_rises 11 = .ok (.aload_n 0, 1) := by decide +kernel
theorem dX8_rises_12 : decode cX8_rises 12 = .ok (.getfield 10, 3) := by decide +kernel
theorem dX8_rises_15 : decode cX8_rises 15 = .ok (.getfield 74, 3) := by decide +kernel
theorem dX8_rises_18 : decode cX8_rises 18 = .ok (.iload_n 1, 1) := by decide +kernel
theorem dX8_rises_19 : decode cX8_rises 19 = .ok (.aaload, 1) := by decide +kernel
theorem dX8_rises_20 : decode cX8_rises 20 = .ok (.astore_n 2, 1) := by decide +kernel
theorem dX8_rises_21 : decode cX8_rises 21 = .ok (.aload_n 2, 1) := by decide +kernel
theorem dX8_rises_22 : decode cX8_rises 22 = .ok (.invokevirtual 108, 3) := by decide +kernel
theorem dX8_rises_25 : decode cX8_rises 25 = .ok (.ifCond .ne 6, 3) := by decide +kernel
theorem dX8_rises_28 : decode cX8_rises 28 = .ok (.ldc 112, 2) := by decide +kernel
theorem dX8_rises_30 : decode cX8_rises 30 = .ok (.ireturn, 1) := by decide +kernel
theorem dX8_rises_31 : decode cX8_rises 31 = .ok (.aload_n 2, 1) := by decide +kernel
theorem dX8_rises_32 : decode cX8_rises 32 = .ok (.getfield 84, 3) := by decide +kernel
theorem dX8_rises_35 : decode cX8_rises 35 = .ok (.istore_n 3, 1) := by decide +kernel
theorem dX8_rises_36 : decode cX8_rises 36 = .ok (.aload_n 2, 1) := by decide +kernel
theorem dX8_rises_37 : decode cX8_rises 37 = .ok (.iconst (-1), 1) := by decide +kernel
theorem dX8_rises_38 : decode cX8_rises 38 = .ok (.putfield 84, 3) := by decide +kernel
theorem dX8_rises_41 : decode cX8_rises 41 = .ok (.iload_n 3, 1) := by decide +kernel
theorem dX8_rises_42 : decode cX8_rises 42 = .ok (.ireturn, 1) := by decide +kernel
theorem dX8_who_0 : decode cX8_who 0 = .ok (.aload_n 0, 1) := by decide +kernel
theorem dX8_who_1 : decode cX8_who 1 = .ok (.iload_n 1, 1) := by decide +kernel
theorem dX8_who_2 : decode cX8_who 2 = .ok (.invokevirtual 113, 3) := by decide +kernel
theorem dX8_who_5 : decode cX8_who 5 = .ok (.ifCond .ne 6, 3) := by decide +kernel
theorem dX8_who_8 : decode cX8_who 8 = .ok (.ldc 58, 2) := by decide +kernel
theorem dX8_who_10 : decode cX8_who 10 = .ok (.ireturn, 1) := by decide +kernel
theorem dX8_who_11 : decode cX8_who 11 = .ok (.iconst 0, 1) := by decide +kernel
theorem dX8_who_12 : decode cX8_who 12 = .ok (.istore_n 2, 1) := by decide +kernel
theorem dX8_who_13 : decode cX8_who 13 = .ok (.iload_n 2, 1) := by decide +kernel
theorem dX8_who_14 : decode cX8_who 14 = .ok (.aload_n 0, 1) := by decide +kernel
theorem dX8_who_15 : decode cX8_who 15 = .ok (.getfield 10, 3) := by decide +kernel
theorem dX8_who_18 : decode cX8_who 18 = .ok (.getfield 124, 3) := by decide +kernel
theorem dX8_who_21 : decode cX8_who 21 = .ok (.if_icmp .ge 34, 3) := by decide +kernel
theorem dX8_who_24 : decode cX8_who 24 = .ok (.aload_n 0, 1) := by decide +kernel
theorem dX8_who_25 : decode cX8_who 25 = .ok (.getfield 10, 3) := by decide +kernel
theorem dX8_who_28 : decode cX8_who 28 = .ok (.aload_n 0, 1) := by decide +kernel
theorem dX8_who_29 : decode cX8_who 29 = .ok (.getfield 10, 3) := by decide +kernel
theorem dX8_who_32 : decode cX8_who 32 = .ok (.getfield 74, 3) := by decide +kernel
theorem dX8_who_35 : decode cX8_who 35 = .ok (.iload_n 2, 1) := by decide +kernel
theorem dX8_who_36 : decode cX8_who 36 = .ok (.aaload, 1) := by decide +kernel
theorem dX8_who_37 : decode cX8_who 37 = .ok (.invokevirtual 93, 3) := by decide +kernel
theorem dX8_who_40 : decode cX8_who 40 = .ok (.iload_n 1, 1) := by decide +kernel
theorem dX8_who_41 : decode cX8_who 41 = .ok (.invokestatic 116, 3) := by decide +kernel
theorem dX8_who_44 : decode cX8_who 44 = .ok (.ifCond .eq 5, 3) := by decide +kernel
theorem dX8_who_47 : decode cX8_who 47 = .ok (.iload_n 2, 1) := by decide +kernel
theorem dX8_who_48 : decode cX8_who 48 = .ok (.ireturn, 1) := by decide +kernel
theorem dX8_who_49 : decode cX8_who 49 = .ok (.iinc 2 1, 3) := by decide +kernel
theorem dX8_who_52 : decode cX8_who 52 = .ok (.goto (-39), 3) := by decide +kernel
theorem dX8_who_55 : decode cX8_who 55 = .ok (.ldc 127, 2) := by decide +kernel
theorem dX8_who_57 : decode cX8_who 57 = .ok (.ireturn, 1) := by decide +kernel
theorem dX8_cushion_0 : decode cX8_cushion 0 = .ok (.aload_n 0, 1) := by decide +kernel
theorem dX8_cushion_1 : decode cX8_cushion 1 = .ok (.iload_n 1, 1) := by decide +kernel
theorem dX8_cushion_2 : decode cX8_cushion 2 = .ok (.invokevirtual 113, 3) := by decide +kernel
theorem dX8_cushion_5 : decode cX8_cushion 5 = .ok (.ifCond .eq 13, 3) := by decide +kernel
theorem dX8_cushion_8 : decode cX8_cushion 8 = .ok (.iload_n 2, 1) := by decide +kernel
theorem dX8_cushion_9 : decode cX8_cushion 9 = .ok (.iconst 0, 1) := by decide +kernel
theorem dX8_cushion_10 : decode cX8_cushion 10 = .ok (.bipush 99, 2) := by decide +kernel
theorem dX8_cushion_12 : decode cX8_cushion 12 = .ok (.invokestatic 54, 3) := by decide +kernel
theorem dX8_cushion_15 : decode cX8_cushion 15 = .ok (.ifCond .ne 6, 3) := by decide +kernel
theorem dX8_cushion_18 : decode cX8_cushion 18 = .ok (.ldc 58, 2) := by decide +kernel
theorem dX8_cushion_20 : decode cX8_cushion 20 = .ok (.ireturn, 1) := by decide +kernel
theorem dX8_cushion_21 : decode cX8_cushion 21 = .ok (.aload_n 0, 1) := by decide +kernel
theorem dX8_cushion_22 : decode cX8_cushion 22 = .ok (.getfield 10, 3) := by decide +kernel
theorem dX8_cushion_25 : decode cX8_cushion 25 = .ok (.getfield 128, 3) := by decide +kernel
theorem dX8_cushion_28 : decode cX8_cushion 28 = .ok (.iload_n 1, 1) := by decide +kernel
theorem dX8_cushion_29 : decode cX8_cushion 29 = .ok (.iaload, 1) := by decide +kernel
theorem dX8_cushion_30 : decode cX8_cushion 30 = .ok (.istore_n 3, 1) := by decide +kernel
theorem dX8_cushion_31 : decode cX8_cushion 31 = .ok (.aload_n 0, 1) := by decide +kernel
theorem dX8_cushion_32 : decode cX8_cushion 32 = .ok (.getfield 10, 3) := by decide +kernel
theorem dX8_cushion_35 : decode cX8_cushion 35 = .ok (.getfield 128, 3) := by decide +kernel
theorem dX8_cushion_38 : decode cX8_cushion 38 = .ok (.iload_n 1, 1) := by decide +kernel
theorem dX8_cushion_39 : decode cX8_cushion 39 = .ok (.iload_n 2, 1) := by decide +kernel
theorem dX8_cushion_40 : decode cX8_cushion 40 = .ok (.iastore, 1) := by decide +kernel
theorem dX8_cushion_41 : decode cX8_cushion 41 = .ok (.iload_n 3, 1) := by decide +kernel
theorem dX8_cushion_42 : decode cX8_cushion 42 = .ok (.ireturn, 1) := by decide +kernel
theorem dX8_rule_0 : decode cX8_rule 0 = .ok (.iload_n 1, 1) := by decide +kernel
theorem dX8_rule_1 : decode cX8_rule 1 = .ok (.iconst 0, 1) := by decide +kernel
theorem dX8_rule_2 : decode cX8_rule 2 = .ok (.iconst 3, 1) := by decide +kernel
theorem dX8_rule_3 : decode cX8_rule 3 = .ok (.invokestatic 54, 3) := by decide +kernel
theorem dX8_rule_6 : decode cX8_rule 6 = .ok (.ifCond .eq 16, 3) := by decide +kernel
theorem dX8_rule_9 : decode cX8_rule 9 = .ok (.iload_n 2, 1) := by decide +kernel
theorem dX8_rule_10 : decode cX8_rule 10 = .ok (.iconst 0, 1) := by decide +kernel
theorem dX8_rule_11 : decode cX8_rule 11 = .ok (.getstatic 131, 3) := by decide +kernel
theorem dX8_rule_14 : decode cX8_rule 14 = .ok (.iload_n 1, 1) := by decide +kernel
theorem dX8_rule_15 : decode cX8_rule 15 = .ok (.iaload, 1) := by decide +kernel
theorem dX8_rule_16 : decode cX8_rule 16 = .ok (.invokestatic 54, 3) := by decide +kernel
theorem dX8_rule_19 : decode cX8_rule 19 = .ok (.ifCond .ne 6, 3) := by decide +kernel
theorem dX8_rule_22 : decode cX8_rule 22 = .ok (.ldc 58, 2) := by decide +kernel
theorem dX8_rule_24 : decode cX8_rule 24 = .ok (.ireturn, 1) := by decide +kernel
theorem dX8_rule_25 : decode cX8_rule 25 = .ok (.aload_n 0, 1) := by decide +kernel
theorem dX8_rule_26 : decode cX8_rule 26 = .ok (.getfield 10, 3) := by decide +kernel
theorem dX8_rule_29 : decode cX8_rule 29 = .ok (.getfield 134, 3) := by decide +kernel
theorem dX8_rule_32 : decode cX8_rule 32 = .ok (.iload_n 1, 1) := by decide +kernel
theorem dX8_rule_33 : decode cX8_rule 33 = .ok (.iaload, 1) := by decide +kernel
theorem dX8_rule_34 : decode cX8_rule 34 = .ok (.istore_n 3, 1) := by decide +kernel
theorem dX8_rule_35 : decode cX8_rule 35 = .ok (.aload_n 0, 1) := by decide +kernel
theorem dX8_rule_36 : decode cX8_rule 36 = .ok (.getfield 10, 3) := by decide +kernel
theorem dX8_rule_39 : decode cX8_rule 39 = .ok (.getfield 134, 3) := by decide +kernel
theorem dX8_rule_42 : decode cX8_rule 42 = .ok (.iload_n 1, 1) := by decide +kernel
theorem dX8_rule_43 : decode cX8_rule 43 = .ok (.iload_n 2, 1) := by decide +kernel
theorem dX8_rule_44 : decode cX8_rule 44 = .ok (.iastore, 1) := by decide +kernel
theorem dX8_rule_45 : decode cX8_rule 45 = .ok (.iload_n 3, 1) := by decide +kernel
theorem dX8_rule_46 : decode cX8_rule 46 = .ok (.ireturn, 1) := by decide +kernel
theorem dX8_deal_0 : decode cX8_deal 0 = .ok (.iload_n 1, 1) := by decide +kernel
theorem dX8_deal_1 : decode cX8_deal 1 = .ok (.iconst 1, 1) := by decide +kernel
theorem dX8_deal_2 : decode cX8_deal 2 = .ok (.bipush 12, 2) := by decide +kernel
theorem dX8_deal_4 : decode cX8_deal 4 = .ok (.invokestatic 54, 3) := by decide +kernel
theorem dX8_deal_7 : decode cX8_deal 7 = .ok (.ifCond .ne 6, 3) := by decide +kernel
theorem dX8_deal_10 : decode cX8_deal 10 = .ok (.ldc 58, 2) := by decide +kernel
theorem dX8_deal_12 : decode cX8_deal 12 = .ok (.ireturn, 1) := by decide +kernel
theorem dX8_deal_13 : decode cX8_deal 13 = .ok (.iload_n 1, 1) := by decide +kernel
theorem dX8_deal_14 : decode cX8_deal 14 = .ok (.bipush 12, 2) := by decide +kernel
theorem dX8_deal_16 : decode cX8_deal 16 = .ok (.aload_n 0, 1) := by decide +kernel
theorem dX8_deal_17 : decode cX8_deal 17 = .ok (.getfield 10, 3) := by decide +kernel
theorem dX8_deal_20 : decode cX8_deal 20 = .ok (.getfield 124, 3) := by decide +kernel
theorem dX8_deal_23 : decode cX8_deal 23 = .ok (.isub, 1) := by decide +kernel
theorem dX8_deal_24 : decode cX8_deal 24 = .ok (.invokestatic 137, 3) := by decide +kernel
theorem dX8_deal_27 : decode cX8_deal 27 = .ok (.istore_n 2, 1) := by decide +kernel
theorem dX8_deal_28 : decode cX8_deal 28 = .ok (.iconst 0, 1) := by decide +kernel
theorem dX8_deal_29 : decode cX8_deal 29 = .ok (.istore_n 3, 1) := by decide +kernel
theorem dX8_deal_30 : decode cX8_deal 30 = .ok (.iload_n 3, 1) := by decide +kernel
theorem dX8_deal_31 : decode cX8_deal 31 = .ok (.iload_n 2, 1) := by decide +kernel
theorem dX8_deal_32 : decode cX8_deal 32 = .ok (.if_icmp .ge 27, 3) := by decide +kernel
theorem dX8_deal_35 : decode cX8_deal 35 = .ok (.aload_n 0, 1) := by decide +kernel
theorem dX8_deal_36 : decode cX8_deal 36 = .ok (.getfield 10, 3) := by decide +kernel
theorem dX8_deal_39 : decode cX8_deal 39 = .ok (.aload_n 0, 1) := by decide +kernel
theorem dX8_deal_40 : decode cX8_deal 40 = .ok (.getfield 10, 3) := by decide +kernel
theorem dX8_deal_43 : decode cX8_deal 43 = .ok (.invokevirtual 143, 3) := by decide +kernel
theorem dX8_deal_46 : decode cX8_deal 46 = .ok (.bipush 6, 2) := by decide +kernel
theorem dX8_deal_48 : decode cX8_deal 48 = .ok (.irem, 1) := by decide +kernel
theorem dX8_deal_49 : decode cX8_deal 49 = .ok (.invokevirtual 67, 3) := by decide +kernel
theorem dX8_deal_52 : decode cX8_deal 52 = .ok (.pop, 1) := by decide +kernel
theorem dX8_deal_53 : decode cX8_deal 53 = .ok (.iinc 3 1, 3) := by decide +kernel
theorem dX8_deal_56 : decode cX8_deal 56 = .ok (.goto (-26), 3) := by decide +kernel
theorem dX8_deal_59 : decode cX8_deal 59 = .ok (.iload_n 2, 1) := by decide +kernel
theorem dX8_deal_60 : decode cX8_deal 60 = .ok (.ireturn, 1) := by decide +kernel
theorem dX8_seed_0 : decode cX8_seed 0 = .ok (.aload_n 0, 1) := by decide +kernel
theorem dX8_seed_1 : decode cX8_seed 1 = .ok (.getfield 10, 3) := by decide +kernel
theorem dX8_seed_4 : decode cX8_seed 4 = .ok (.getfield 146, 3) := by decide +kernel
theorem dX8_seed_7 : decode cX8_seed 7 = .ok (.istore_n 2, 1) := by decide +kernel
theorem dX8_seed_8 : decode cX8_seed 8 = .ok (.aload_n 0, 1) := by decide +kernel
theorem dX8_seed_9 : decode cX8_seed 9 = .ok (.getfield 10, 3) := by decide +kernel
theorem dX8_seed_12 : decode cX8_seed 12 = .ok (.iload_n 1, 1) := by decide +kernel
theorem dX8_seed_13 : decode cX8_seed 13 = .ok (.putfield 146, 3) := by decide +kernel
theorem dX8_seed_16 : decode cX8_seed 16 = .ok (.iload_n 2, 1) := by decide +kernel
theorem dX8_seed_17 : decode cX8_seed 17 = .ok (.ireturn, 1) := by decide +kernel
theorem dX8_minutes_0 : decode cX8_minutes 0 = .ok (.iload_n 1, 1) := by decide +kernel
theorem dX8_minutes_1 : decode cX8_minutes 1 = .ok (.iconst 1, 1) := by decide +kernel
theorem dX8_minutes_2 : decode cX8_minutes 2 = .ok (.bipush 100, 2) := by decide +kernel
theorem dX8_minutes_4 : decode cX8_minutes 4 = .ok (.invokestatic 54, 3) := by decide +kernel
theorem dX8_minutes_7 : decode cX8_minutes 7 = .ok (.ifCond .ne 6, 3) := by decide +kernel
theorem dX8_minutes_10 : decode cX8_minutes 10 = .ok (.ldc 58, 2) := by decide +kernel
theorem dX8_minutes_12 : decode cX8_minutes 12 = .ok (.ireturn, 1) := by decide +kernel
theorem dX8_minutes_13 : decode cX8_minutes 13 = .ok (.aload_n 0, 1) := by decide +kernel
theorem dX8_minutes_14 : decode cX8_minutes 14 = .ok (.getfield 10, 3) := by decide +kernel
theorem dX8_minutes_17 : decode cX8_minutes 17 = .ok (.iload_n 1, 1) := by decide +kernel
theorem dX8_minutes_18 : decode cX8_minutes 18 = .ok (.sipush 9999, 3) := by decide +kernel
theorem dX8_minutes_21 : decode cX8_minutes 21 = .ok (.aload_n 0, 1) := by decide +kernel
theorem dX8_minutes_22 : decode cX8_minutes 22 = .ok (.getfield 10, 3) := by decide +kernel
theorem dX8_minutes_25 : decode cX8_minutes 25 = .ok (.getfield 149, 3) := by decide +kernel
theorem dX8_minutes_28 : decode cX8_minutes 28 = .ok (.isub, 1) := by decide +kernel
theorem dX8_minutes_29 : decode cX8_minutes 29 = .ok (.invokestatic 137, 3) := by decide +kernel
theorem dX8_minutes_32 : decode cX8_minutes 32 = .ok (.invokevirtual 152, 3) := by decide +kernel
theorem dX8_minutes_35 : decode cX8_minutes 35 = .ok (.ireturn, 1) := by decide +kernel
theorem dX8_inn_0 : decode cX8_inn 0 = .ok (.iload_n 1, 1) := by decide +kernel
theorem dX8_inn_1 : decode cX8_inn 1 = .ok (.tableswitch 63 0 3 #[31, 39, 47, 55], 31) := by decide +kernel
theorem dX8_inn_32 : decode cX8_inn 32 = .ok (.aload_n 0, 1) := by decide +kernel
theorem dX8_inn_33 : decode cX8_inn 33 = .ok (.getfield 10, 3) := by decide +kernel
theorem dX8_inn_36 : decode cX8_inn 36 = .ok (.invokevirtual 155, 3) := by decide +kernel
theorem dX8_inn_39 : decode cX8_inn 39 = .ok (.ireturn, 1) := by decide +kernel
theorem dX8_inn_40 : decode cX8_inn 40 = .ok (.aload_n 0, 1) := by decide +kernel
theorem dX8_inn_41 : decode cX8_inn 41 = .ok (.getfield 10, 3) := by decide +kernel
theorem dX8_inn_44 : decode cX8_inn 44 = .ok (.getfield 158, 3) := by decide +kernel
theorem dX8_inn_47 : decode cX8_inn 47 = .ok (.ireturn, 1) := by decide +kernel
theorem dX8_inn_48 : decode cX8_inn 48 = .ok (.aload_n 0, 1) := by decide +kernel
theorem dX8_inn_49 : decode cX8_inn 49 = .ok (.getfield 10, 3) := by decide +kernel
theorem dX8_inn_52 : decode cX8_inn 52 = .ok (.invokevirtual 161, 3) := by decide +kernel
theorem dX8_inn_55 : decode cX8_inn 55 = .ok (.ireturn, 1) := by decide +kernel
theorem dX8_inn_56 : decode cX8_inn 56 = .ok (.aload_n 0, 1) := by decide +kernel
theorem dX8_inn_57 : decode cX8_inn 57 = .ok (.getfield 10, 3) := by decide +kernel
theorem dX8_inn_60 : decode cX8_inn 60 = .ok (.invokevirtual 164, 3) := by decide +kernel
theorem dX8_inn_63 : decode cX8_inn 63 = .ok (.ireturn, 1) := by decide +kernel
theorem dX8_inn_64 : decode cX8_inn 64 = .ok (.ldc 58, 2) := by decide +kernel
theorem dX8_inn_66 : decode cX8_inn 66 = .ok (.ireturn, 1) := by decide +kernel
theorem dX8_goes_0 : decode cX8_goes 0 = .ok (.iload_n 1, 1) := by decide +kernel
theorem dX8_goes_1 : decode cX8_goes 1 = .ok (.iconst 0, 1) := by decide +kernel
theorem dX8_goes_2 : decode cX8_goes 2 = .ok (.iconst 2, 1) := by decide +kernel
theorem dX8_goes_3 : decode cX8_goes 3 = .ok (.invokestatic 54, 3) := by decide +kernel
theorem dX8_goes_6 : decode cX8_goes 6 = .ok (.ifCond .ne 6, 3) := by decide +kernel
theorem dX8_goes_9 : decode cX8_goes 9 = .ok (.ldc 58, 2) := by decide +kernel
theorem dX8_goes_11 : decode cX8_goes 11 = .ok (.ireturn, 1) := by decide +kernel
theorem dX8_goes_12 : decode cX8_goes 12 = .ok (.aload_n 0, 1) := by decide +kernel
theorem dX8_goes_13 : decode cX8_goes 13 = .ok (.getfield 25, 3) := by decide +kernel
theorem dX8_goes_16 : decode cX8_goes 16 = .ok (.aload_n 0, 1) := by decide +kernel
theorem dX8_goes_17 : decode cX8_goes 17 = .ok (.getfield 10, 3) := by decide +kernel
theorem dX8_goes_20 : decode cX8_goes 20 = .ok (.getfield 167, 3) := by decide +kernel
theorem dX8_goes_23 : decode cX8_goes 23 = .ok (.aload_n 0, 1) := by decide +kernel
theorem dX8_goes_24 : decode cX8_goes 24 = .ok (.getfield 10, 3) := by decide +kernel
theorem dX8_goes_27 : decode cX8_goes 27 = .ok (.invokevirtual 155, 3) := by decide +kernel
theorem dX8_goes_30 : decode cX8_goes 30 = .ok (.iload_n 1, 1) := by decide +kernel
theorem dX8_goes_31 : decode cX8_goes 31 = .ok (.invokevirtual 171, 3) := by decide +kernel
theorem dX8_goes_34 : decode cX8_goes 34 = .ok (.ireturn, 1) := by decide +kernel
theorem dX8_game_0 : decode cX8_game 0 = .ok (.iload_n 1, 1) := by decide +kernel
theorem dX8_game_1 : decode cX8_game 1 = .ok (.iconst 0, 1) := by decide +kernel
theorem dX8_game_2 : decode cX8_game 2 = .ok (.iconst 1, 1) := by decide +kernel
theorem dX8_game_3 : decode cX8_game 3 = .ok (.invokestatic 54, 3) := by decide +kernel
theorem dX8_game_6 : decode cX8_game 6 = .ok (.ifCond .ne 6, 3) := by decide +kernel
theorem dX8_game_9 : decode cX8_game 9 = .ok (.ldc 58, 2) := by decide +kernel
theorem dX8_game_11 : decode cX8_game 11 = .ok (.ireturn, 1) := by decide +kernel
theorem dX8_game_12 : decode cX8_game 12 = .ok (.aload_n 0, 1) := by decide +kernel
theorem dX8_game_13 : decode cX8_game 13 = .ok (.getfield 10, 3) := by decide +kernel
theorem dX8_game_16 : decode cX8_game 16 = .ok (.invokevirtual 155, 3) := by decide +kernel
theorem dX8_game_19 : decode cX8_game 19 = .ok (.istore_n 2, 1) := by decide +kernel
theorem dX8_game_20 : decode cX8_game 20 = .ok (.aload_n 0, 1) := by decide +kernel
theorem dX8_game_21 : decode cX8_game 21 = .ok (.getfield 25, 3) := by decide +kernel
theorem dX8_game_24 : decode cX8_game 24 = .ok (.aload_n 0, 1) := by decide +kernel
theorem dX8_game_25 : decode cX8_game 25 = .ok (.getfield 10, 3) := by decide +kernel
theorem dX8_game_28 : decode cX8_game 28 = .ok (.getfield 167, 3) := by decide +kernel
theorem dX8_game_31 : decode cX8_game 31 = .ok (.iload_n 2, 1) := by decide +kernel
theorem dX8_game_32 : decode cX8_game 32 = .ok (.iconst 3, 1) := by decide +kernel
theorem dX8_game_33 : decode cX8_game 33 = .ok (.invokevirtual 171, 3) := by decide +kernel
theorem dX8_game_36 : decode cX8_game 36 = .ok (.istore_n 3, 1) := by decide +kernel
theorem dX8_game_37 : decode cX8_game 37 = .ok (.iload_n 1, 1) := by decide +kernel
theorem dX8_game_38 : decode cX8_game 38 = .ok (.ifCond .ne 7, 3) := by decide +kernel
theorem dX8_game_41 : decode cX8_game 41 = .ok (.iload_n 3, 1) := by decide +kernel
theorem dX8_game_42 : decode cX8_game 42 = .ok (.goto 18, 3) := by decide +kernel
theorem dX8_game_45 : decode cX8_game 45 = .ok (.aload_n 0, 1) := by decide +kernel
theorem dX8_game_46 : decode cX8_game 46 = .ok (.getfield 25, 3) := by decide +kernel
theorem dX8_game_49 : decode cX8_game 49 = .ok (.aload_n 0, 1) := by decide +kernel
theorem dX8_game_50 : decode cX8_game 50 = .ok (.getfield 10, 3) := by decide +kernel
theorem dX8_game_53 : decode cX8_game 53 = .ok (.getfield 167, 3) := by decide +kernel
theorem dX8_game_56 : decode cX8_game 56 = .ok (.iload_n 2, 1) := by decide +kernel
theorem dX8_game_57 : decode cX8_game 57 = .ok (.invokevirtual 175, 3) := by decide +kernel
theorem dX8_game_60 : decode cX8_game 60 = .ok (.ireturn, 1) := by decide +kernel
theorem dX8_worthy_0 : decode cX8_worthy 0 = .ok (.iload_n 1, 1) := by decide +kernel
theorem dX8_worthy_1 : decode cX8_worthy 1 = .ok (.iconst 0, 1) := by decide +kernel
theorem dX8_worthy_2 : decode cX8_worthy 2 = .ok (.iconst 1, 1) := by decide +kernel
theorem dX8_worthy_3 : decode cX8_worthy 3 = .ok (.invokestatic 54, 3) := by decide +kernel
theorem dX8_worthy_6 : decode cX8_worthy 6 = .ok (.ifCond .ne 6, 3) := by decide +kernel
theorem dX8_worthy_9 : decode cX8_worthy 9 = .ok (.ldc 58, 2) := by decide +kernel
theorem dX8_worthy_11 : decode cX8_worthy 11 = .ok (.ireturn, 1) := by decide +kernel
theorem dX8_worthy_12 : decode cX8_worthy 12 = .ok (.aload_n 0, 1) := by decide +kernel
theorem dX8_worthy_13 : decode cX8_worthy 13 = .ok (.getfield 10, 3) := by decide +kernel
theorem dX8_worthy_16 : decode cX8_worthy 16 = .ok (.invokevirtual 155, 3) := by decide +kernel
theorem dX8_worthy_19 : decode cX8_worthy 19 = .ok (.istore_n 2, 1) := by decide +kernel
theorem dX8_worthy_20 : decode cX8_worthy 20 = .ok (.iload_n 2, 1) := by decide +kernel
theorem dX8_worthy_21 : decode cX8_worthy 21 = .ok (.aload_n 0, 1) := by decide +kernel
theorem dX8_worthy_22 : decode cX8_worthy 22 = .ok (.getfield 10, 3) := by decide +kernel
theorem dX8_worthy_25 : decode cX8_worthy 25 = .ok (.getfield 167, 3) := by decide +kernel
theorem dX8_worthy_28 : decode cX8_worthy 28 = .ok (.getfield 179, 3) := by decide +kernel
theorem dX8_worthy_31 : decode cX8_worthy 31 = .ok (.if_icmp .ne 6, 3) := by decide +kernel
theorem dX8_worthy_34 : decode cX8_worthy 34 = .ok (.ldc 127, 2) := by decide +kernel
theorem dX8_worthy_36 : decode cX8_worthy 36 = .ok (.ireturn, 1) := by decide +kernel
theorem dX8_worthy_37 : decode cX8_worthy 37 = .ok (.aload_n 0, 1) := by decide +kernel
theorem dX8_worthy_38 : decode cX8_worthy 38 = .ok (.getfield 25, 3) := by decide +kernel
theorem dX8_worthy_41 : decode cX8_worthy 41 = .ok (.aload_n 0, 1) := by decide +kernel
theorem dX8_worthy_42 : decode cX8_worthy 42 = .ok (.getfield 10, 3) := by decide +kernel
theorem dX8_worthy_45 : decode cX8_worthy 45 = .ok (.iload_n 2, 1) := by decide +kernel
theorem dX8_worthy_46 : decode cX8_worthy 46 = .ok (.invokevirtual 184, 3) := by decide +kernel
theorem dX8_worthy_49 : decode cX8_worthy 49 = .ok (.iload_n 1, 1) := by decide +kernel
theorem dX8_worthy_50 : decode cX8_worthy 50 = .ok (.ifCond .ne 13, 3) := by decide +kernel
theorem dX8_worthy_53 : decode cX8_worthy 53 = .ok (.aload_n 0, 1) := by decide +kernel
theorem dX8_worthy_54 : decode cX8_worthy 54 = .ok (.getfield 25, 3) := by decide +kernel
theorem dX8_worthy_57 : decode cX8_worthy 57 = .ok (.getfield 188, 3) := by decide +kernel
theorem dX8_worthy_60 : decode cX8_worthy 60 = .ok (.goto 10, 3) := by decide +kernel
theorem dX8_worthy_63 : decode cX8_worthy 63 = .ok (.aload_n 0, 1) := by decide +kernel
theorem dX8_worthy_64 : decode cX8_worthy 64 = .ok (.getfield 25, 3) := by decide +kernel
theorem dX8_worthy_67 : decode cX8_worthy 67 = .ok (.getfield 191, 3) := by decide +kernel
theorem dX8_worthy_70 : decode cX8_worthy 70 = .ok (.ireturn, 1) := by decide +kernel
theorem dX8_behind_0 : decode cX8_behind 0 = .ok (.iload_n 1, 1) := by decide +kernel
theorem dX8_behind_1 : decode cX8_behind 1 = .ok (.iconst 0, 1) := by decide +kernel
theorem dX8_behind_2 : decode cX8_behind 2 = .ok (.bipush 100, 2) := by decide +kernel
theorem dX8_behind_4 : decode cX8_behind 4 = .ok (.invokestatic 54, 3) := by decide +kernel
theorem dX8_behind_7 : decode cX8_behind 7 = .ok (.ifCond .eq 20, 3) := by decide +kernel
theorem dX8_behind_10 : decode cX8_behind 10 = .ok (.iload_n 2, 1) := by decide +kernel
theorem dX8_behind_11 : decode cX8_behind 11 = .ok (.iconst 0, 1) := by decide +kernel
theorem dX8_behind_12 : decode cX8_behind 12 = .ok (.iconst 2, 1) := by decide +kernel
theorem dX8_behind_13 : decode cX8_behind 13 = .ok (.aload_n 0, 1) := by decide +kernel
theorem dX8_behind_14 : decode cX8_behind 14 = .ok (.getfield 10, 3) := by decide +kernel
theorem dX8_behind_17 : decode cX8_behind 17 = .ok (.getfield 124, 3) := by decide +kernel
theorem dX8_behind_20 : decode cX8_behind 20 = .ok (.iadd, 1) := by decide +kernel
theorem dX8_behind_21 : decode cX8_behind 21 = .ok (.invokestatic 54, 3) := by decide +kernel
theorem dX8_behind_24 : decode cX8_behind 24 = .ok (.ifCond .ne 6, 3) := by decide +kernel
theorem dX8_behind_27 : decode cX8_behind 27 = .ok (.ldc 58, 2) := by decide +kernel
theorem dX8_behind_29 : decode cX8_behind 29 = .ok (.ireturn, 1) := by decide +kernel
theorem dX8_behind_30 : decode cX8_behind 30 = .ok (.aload_n 0, 1) := by decide +kernel
theorem dX8_behind_31 : decode cX8_behind 31 = .ok (.getfield 19, 3) := by decide +kernel
theorem dX8_behind_34 : decode cX8_behind 34 = .ok (.aload_n 0, 1) := by decide +kernel
theorem dX8_behind_35 : decode cX8_behind 35 = .ok (.getfield 10, 3) := by decide +kernel
theorem dX8_behind_38 : decode cX8_behind 38 = .ok (.invokevirtual 194, 3) := by decide +kernel
theorem dX8_behind_41 : decode cX8_behind 41 = .ok (.aload_n 0, 1) := by decide +kernel
theorem dX8_behind_42 : decode cX8_behind 42 = .ok (.getfield 19, 3) := by decide +kernel
theorem dX8_behind_45 : decode cX8_behind 45 = .ok (.iload_n 1, 1) := by decide +kernel
theorem dX8_behind_46 : decode cX8_behind 46 = .ok (.invokevirtual 152, 3) := by decide +kernel
theorem dX8_behind_49 : decode cX8_behind 49 = .ok (.pop, 1) := by decide +kernel
theorem dX8_behind_50 : decode cX8_behind 50 = .ok (.iload_n 2, 1) := by decide +kernel
theorem dX8_behind_51 : decode cX8_behind 51 = .ok (.tableswitch 49 0 2 #[25, 33, 41], 25) := by decide +kernel
theorem dX8_behind_76 : decode cX8_behind 76 = .ok (.aload_n 0, 1) := by decide +kernel
theorem dX8_behind_77 : decode cX8_behind 77 = .ok (.getfield 19, 3) := by decide +kernel
theorem dX8_behind_80 : decode cX8_behind 80 = .ok (.invokevirtual 155, 3) := by decide +kernel
theorem dX8_behind_83 : decode cX8_behind 83 = .ok (.ireturn, 1) := by decide +kernel
theorem dX8_behind_84 : decode cX8_behind 84 = .ok (.aload_n 0, 1) := by decide +kernel
theorem dX8_behind_85 : decode cX8_behind 85 = .ok (.getfield 19, 3) := by decide +kernel
theorem dX8_behind_88 : decode cX8_behind 88 = .ok (.getfield 158, 3) := by decide +kernel
theorem dX8_behind_91 : decode cX8_behind 91 = .ok (.ireturn, 1) := by decide +kernel
theorem dX8_behind_92 : decode cX8_behind 92 = .ok (.aload_n 0, 1) := by decide +kernel
theorem dX8_behind_93 : decode cX8_behind 93 = .ok (.getfield 19, 3) := by decide +kernel
theorem dX8_behind_96 : decode cX8_behind 96 = .ok (.invokevirtual 161, 3) := by decide +kernel
theorem dX8_behind_99 : decode cX8_behind 99 = .ok (.ireturn, 1) := by decide +kernel
theorem dX8_behind_100 : decode cX8_behind 100 = .ok (.aload_n 0, 1) := by decide +kernel
theorem dX8_behind_101 : decode cX8_behind 101 = .ok (.getfield 19, 3) := by decide +kernel
theorem dX8_behind_104 : decode cX8_behind 104 = .ok (.getfield 74, 3) := by decide +kernel
theorem dX8_behind_107 : decode cX8_behind 107 = .ok (.iload_n 2, 1) := by decide +kernel
theorem dX8_behind_108 : decode cX8_behind 108 = .ok (.iconst 3, 1) := by decide +kernel
theorem dX8_behind_109 : decode cX8_behind 109 = .ok (.isub, 1) := by decide +kernel
theorem dX8_behind_110 : decode cX8_behind 110 = .ok (.aaload, 1) := by decide +kernel
theorem dX8_behind_111 : decode cX8_behind 111 = .ok (.getfield 84, 3) := by decide +kernel
theorem dX8_behind_114 : decode cX8_behind 114 = .ok (.ireturn, 1) := by decide +kernel
theorem dX8_fullUp_0 : decode cX8_fullUp 0 = .ok (.aload_n 0, 1) := by decide +kernel
theorem dX8_fullUp_1 : decode cX8_fullUp 1 = .ok (.getfield 19, 3) := by decide +kernel
theorem dX8_fullUp_4 : decode cX8_fullUp 4 = .ok (.aload_n 0, 1) := by decide +kernel
theorem dX8_fullUp_5 : decode cX8_fullUp 5 = .ok (.getfield 10, 3) := by decide +kernel
theorem dX8_fullUp_8 : decode cX8_fullUp 8 = .ok (.invokevirtual 194, 3) := by decide +kernel
theorem dX8_fullUp_11 : decode cX8_fullUp 11 = .ok (.iconst 0, 1) := by decide +kernel
theorem dX8_fullUp_12 : decode cX8_fullUp 12 = .ok (.istore_n 1, 1) := by decide +kernel
theorem dX8_fullUp_13 : decode cX8_fullUp 13 = .ok (.iload_n 1, 1) := by decide +kernel
theorem dX8_fullUp_14 : decode cX8_fullUp 14 = .ok (.sipush 200, 3) := by decide +kernel
theorem dX8_fullUp_17 : decode cX8_fullUp 17 = .ok (.if_icmp .gt 29, 3) := by decide +kernel
theorem dX8_fullUp_20 : decode cX8_fullUp 20 = .ok (.aload_n 0, 1) := by decide +kernel
theorem dX8_fullUp_21 : decode cX8_fullUp 21 = .ok (.getfield 19, 3) := by decide +kernel
theorem dX8_fullUp_24 : decode cX8_fullUp 24 = .ok (.invokevirtual 198, 3) := by decide +kernel
theorem dX8_fullUp_27 : decode cX8_fullUp 27 = .ok (.ifCond .eq 5, 3) := by decide +kernel
theorem dX8_fullUp_30 : decode cX8_fullUp 30 = .ok (.iload_n 1, 1) := by decide +kernel
theorem dX8_fullUp_31 : decode cX8_fullUp 31 = .ok (.ireturn, 1) := by decide +kernel
theorem dX8_fullUp_32 : decode cX8_fullUp 32 = .ok (.aload_n 0, 1) := by decide +kernel
theorem dX8_fullUp_33 : decode cX8_fullUp 33 = .ok (.getfield 19, 3) := by decide +kernel
theorem dX8_fullUp_36 : decode cX8_fullUp 36 = .ok (.invokevirtual 201, 3) := by decide +kernel
theorem dX8_fullUp_39 : decode cX8_fullUp 39 = .ok (.pop, 1) := by decide +kernel
theorem dX8_fullUp_40 : decode cX8_fullUp 40 = .ok (.iinc 1 1, 3) := by decide +kernel
theorem dX8_fullUp_43 : decode cX8_fullUp 43 = .ok (.goto (-30), 3) := by decide +kernel
theorem dX8_fullUp_46 : decode cX8_fullUp 46 = .ok (.ldc 127, 2) := by decide +kernel
theorem dX8_fullUp_48 : decode cX8_fullUp 48 = .ok (.ireturn, 1) := by decide +kernel
theorem dX8_rose_0 : decode cX8_rose 0 = .ok (.iload_n 1, 1) := by decide +kernel
theorem dX8_rose_1 : decode cX8_rose 1 = .ok (.iconst 1, 1) := by decide +kernel
theorem dX8_rose_2 : decode cX8_rose 2 = .ok (.bipush 60, 2) := by decide +kernel
theorem dX8_rose_4 : decode cX8_rose 4 = .ok (.invokestatic 54, 3) := by decide +kernel
theorem dX8_rose_7 : decode cX8_rose 7 = .ok (.ifCond .eq 12, 3) := by decide +kernel
theorem dX8_rose_10 : decode cX8_rose 10 = .ok (.iload_n 2, 1) := by decide +kernel
theorem dX8_rose_11 : decode cX8_rose 11 = .ok (.iconst 0, 1) := by decide +kernel
theorem dX8_rose_12 : decode cX8_rose 12 = .ok (.iconst 1, 1) := by decide +kernel
theorem dX8_rose_13 : decode cX8_rose 13 = .ok (.invokestatic 54, 3) := by decide +kernel
theorem dX8_rose_16 : decode cX8_rose 16 = .ok (.ifCond .ne 6, 3) := by decide +kernel
theorem dX8_rose_19 : decode cX8_rose 19 = .ok (.ldc 58, 2) := by decide +kernel
theorem dX8_rose_21 : decode cX8_rose 21 = .ok (.ireturn, 1) := by decide +kernel
theorem dX8_rose_22 : decode cX8_rose 22 = .ok (.ldc 127, 2) := by decide +kernel
theorem dX8_rose_24 : decode cX8_rose 24 = .ok (.istore_n 3, 1) := by decide +kernel
theorem dX8_rose_25 : decode cX8_rose 25 = .ok (.ldc 127, 2) := by decide +kernel
theorem dX8_rose_27 : decode cX8_rose 27 = .ok (.istore 4, 2) := by decide +kernel
theorem dX8_rose_29 : decode cX8_rose 29 = .ok (.iconst 0, 1) := by decide +kernel
theorem dX8_rose_30 : decode cX8_rose 30 = .ok (.istore 5, 2) := by decide +kernel
theorem dX8_rose_32 : decode cX8_rose 32 = .ok (.iload 5, 2) := by decide +kernel
theorem dX8_rose_34 : decode cX8_rose 34 = .ok (.aload_n 0, 1) := by decide +kernel
theorem dX8_rose_35 : decode cX8_rose 35 = .ok (.getfield 10, 3) := by decide +kernel
theorem dX8_rose_38 : decode cX8_rose 38 = .ok (.getfield 124, 3) := by decide +kernel
theorem dX8_rose_41 : decode cX8_rose 41 = .ok (.if_icmp .ge 89, 3) := by decide +kernel
theorem dX8_rose_44 : decode cX8_rose 44 = .ok (.aload_n 0, 1) := by decide +kernel
theorem dX8_rose_45 : decode cX8_rose 45 = .ok (.getfield 10, 3) := by decide +kernel
theorem dX8_rose_48 : decode cX8_rose 48 = .ok (.getfield 74, 3) := by decide +kernel
theorem dX8_rose_51 : decode cX8_rose 51 = .ok (.iload 5, 2) := by decide +kernel
theorem dX8_rose_53 : decode cX8_rose 53 = .ok (.aaload, 1) := by decide +kernel
theorem dX8_rose_54 : decode cX8_rose 54 = .ok (.invokevirtual 108, 3) := by decide +kernel
theorem dX8_rose_57 : decode cX8_rose 57 = .ok (.ifCond .eq 67, 3) := by decide +kernel
theorem dX8_rose_60 : decode cX8_rose 60 = .ok (.aload_n 0, 1) := by decide +kernel
theorem dX8_rose_61 : decode cX8_rose 61 = .ok (.getfield 19, 3) := by decide +kernel
theorem dX8_rose_64 : decode cX8_rose 64 = .ok (.aload_n 0, 1) := by decide +kernel
theorem dX8_rose_65 : decode cX8_rose 65 = .ok (.getfield 10, 3) := by decide +kernel
theorem dX8_rose_68 : decode cX8_rose 68 = .ok (.invokevirtual 194, 3) := by decide +kernel
theorem dX8_rose_71 : decode cX8_rose 71 = .ok (.aload_n 0, 1) := by decide +kernel
theorem dX8_rose_72 : decode cX8_rose 72 = .ok (.getfield 19, 3) := by decide +kernel
theorem dX8_rose_75 : decode cX8_rose 75 = .ok (.getfield 74, 3) := by decide +kernel
theorem dX8_rose_78 : decode cX8_rose 78 = .ok (.iload 5, 2) := by decide +kernel
theorem dX8_rose_80 : decode cX8_rose 80 = .ok (.aaload, 1) := by decide +kernel
theorem dX8_rose_81 : decode cX8_rose 81 = .ok (.iconst (-1), 1) := by decide +kernel
theorem dX8_rose_82 : decode cX8_rose 82 = .ok (.putfield 84, 3) := by decide +kernel
theorem dX8_rose_85 : decode cX8_rose 85 = .ok (.aload_n 0, 1) := by decide +kernel
theorem dX8_rose_86 : decode cX8_rose 86 = .ok (.getfield 19, 3) := by decide +kernel
theorem dX8_rose_89 : decode cX8_rose 89 = .ok (.iload_n 1, 1) := by decide +kernel
theorem dX8_rose_90 : decode cX8_rose 90 = .ok (.invokevirtual 152, 3) := by decide +kernel
theorem dX8_rose_93 : decode cX8_rose 93 = .ok (.pop, 1) := by decide +kernel
theorem dX8_rose_94 : decode cX8_rose 94 = .ok (.iload_n 3, 1) := by decide +kernel
theorem dX8_rose_95 : decode cX8_rose 95 = .ok (.ldc 127, 2) := by decide +kernel
theorem dX8_rose_97 : decode cX8_rose 97 = .ok (.if_icmp .eq 15, 3) := by decide +kernel
theorem dX8_rose_100 : decode cX8_rose 100 = .ok (.aload_n 0, 1) := by decide +kernel
theorem dX8_rose_101 : decode cX8_rose 101 = .ok (.getfield 19, 3) := by decide +kernel
theorem dX8_rose_104 : decode cX8_rose 104 = .ok (.getfield 158, 3) := by decide +kernel
theorem dX8_rose_107 : decode cX8_rose 107 = .ok (.iload 4, 2) := by decide +kernel
theorem dX8_rose_109 : decode cX8_rose 109 = .ok (.if_icmp .le 15, 3) := by decide +kernel
theorem dX8_rose_112 : decode cX8_rose 112 = .ok (.iload 5, 2) := by decide +kernel
theorem dX8_rose_114 : decode cX8_rose 114 = .ok (.istore_n 3, 1) := by decide +kernel
theorem dX8_rose_115 : decode cX8_rose 115 = .ok (.aload_n 0, 1) := by decide +kernel
theorem dX8_rose_116 : decode cX8_rose 116 = .ok (.getfield 19, 3) := by decide +kernel
theorem dX8_rose_119 : decode cX8_rose 119 = .ok (.getfield 158, 3) := by decide +kernel
theorem dX8_rose_122 : decode cX8_rose 122 = .ok (.istore 4, 2) := by decide +kernel
theorem dX8_rose_124 : decode cX8_rose 124 = .ok (.iinc 5 1, 3) := by decide +kernel
theorem dX8_rose_127 : decode cX8_rose 127 = .ok (.goto (-95), 3) := by decide +kernel
theorem dX8_rose_130 : decode cX8_rose 130 = .ok (.iload_n 2, 1) := by decide +kernel
theorem dX8_rose_131 : decode cX8_rose 131 = .ok (.ifCond .ne 7, 3) := by decide +kernel
theorem dX8_rose_134 : decode cX8_rose 134 = .ok (.iload_n 3, 1) := by decide +kernel
theorem dX8_rose_135 : decode cX8_rose 135 = .ok (.goto 5, 3) := by decide +kernel
theorem dX8_rose_138 : decode cX8_rose 138 = .ok (.iload 4, 2) := by decide +kernel
theorem dX8_rose_140 : decode cX8_rose 140 = .ok (.ireturn, 1) := by decide +kernel
theorem dX8_book_0 : decode cX8_book 0 = .ok (.aload_n 0, 1) := by decide +kernel
theorem dX8_book_1 : decode cX8_book 1 = .ok (.iload_n 1, 1) := by decide +kernel
theorem dX8_book_2 : decode cX8_book 2 = .ok (.invokevirtual 204, 3) := by decide +kernel
theorem dX8_book_5 : decode cX8_book 5 = .ok (.istore_n 2, 1) := by decide +kernel
theorem dX8_book_6 : decode cX8_book 6 = .ok (.iload_n 2, 1) := by decide +kernel
theorem dX8_book_7 : decode cX8_book 7 = .ok (.ifCond .eq 5, 3) := by decide +kernel
theorem dX8_book_10 : decode cX8_book 10 = .ok (.iload_n 2, 1) := by decide +kernel
theorem dX8_book_11 : decode cX8_book 11 = .ok (.ireturn, 1) := by decide +kernel
theorem dX8_book_12 : decode cX8_book 12 = .ok (.aload_n 0, 1) := by decide +kernel
theorem dX8_book_13 : decode cX8_book 13 = .ok (.getfield 38, 3) := by decide +kernel
theorem dX8_book_16 : decode cX8_book 16 = .ok (.iload_n 1, 1) := by decide +kernel
theorem dX8_book_17 : decode cX8_book 17 = .ok (.aaload, 1) := by decide +kernel
theorem dX8_book_18 : decode cX8_book 18 = .ok (.astore_n 3, 1) := by decide +kernel
theorem dX8_book_19 : decode cX8_book 19 = .ok (.aload_n 0, 1) := by decide +kernel
theorem dX8_book_20 : decode cX8_book 20 = .ok (.getfield 10, 3) := by decide +kernel
theorem dX8_book_23 : decode cX8_book 23 = .ok (.invokevirtual 155, 3) := by decide +kernel
theorem dX8_book_26 : decode cX8_book 26 = .ok (.istore 4, 2) := by decide +kernel
theorem dX8_book_28 : decode cX8_book 28 = .ok (.iconst 0, 1) := by decide +kernel
theorem dX8_book_29 : decode cX8_book 29 = .ok (.istore 5, 2) := by decide +kernel
theorem dX8_book_31 : decode cX8_book 31 = .ok (.iconst 0, 1) := by decide +kernel
theorem dX8_book_32 : decode cX8_book 32 = .ok (.istore 6, 2) := by decide +kernel
theorem dX8_book_34 : decode cX8_book 34 = .ok (.iload 6, 2) := by decide +kernel
theorem dX8_book_36 : decode cX8_book 36 = .ok (.aload_n 3, 1) := by decide +kernel
theorem dX8_book_37 : decode cX8_book 37 = .ok (.getfield 207, 3) := by decide +kernel
theorem dX8_book_40 : decode cX8_book 40 = .ok (.if_icmp .ge 69, 3) := by decide +kernel
theorem dX8_book_43 : decode cX8_book 43 = .ok (.aload_n 3, 1) := by decide +kernel
theorem dX8_book_44 : decode cX8_book 44 = .ok (.getfield 210, 3) := by decide +kernel
theorem dX8_book_47 : decode cX8_book 47 = .ok (.iload 6, 2) := by decide +kernel
theorem dX8_book_49 : decode cX8_book 49 = .ok (.iaload, 1) := by decide +kernel
theorem dX8_book_50 : decode cX8_book 50 = .ok (.istore 7, 2) := by decide +kernel
theorem dX8_book_52 : decode cX8_book 52 = .ok (.iload 7, 2) := by decide +kernel
theorem dX8_book_54 : decode cX8_book 54 = .ok (.ldc 127, 2) := by decide +kernel
theorem dX8_book_56 : decode cX8_book 56 = .ok (.if_icmp .eq 47, 3) := by decide +kernel
theorem dX8_book_59 : decode cX8_book 59 = .ok (.aload_n 0, 1) := by decide +kernel
theorem dX8_book_60 : decode cX8_book 60 = .ok (.iload 7, 2) := by decide +kernel
theorem dX8_book_62 : decode cX8_book 62 = .ok (.invokevirtual 113, 3) := by decide +kernel
theorem dX8_book_65 : decode cX8_book 65 = .ok (.ifCond .eq 23, 3) := by decide +kernel
theorem dX8_book_68 : decode cX8_book 68 = .ok (.aload_n 0, 1) := by decide +kernel
theorem dX8_book_69 : decode cX8_book 69 = .ok (.getfield 10, 3) := by decide +kernel
theorem dX8_book_72 : decode cX8_book 72 = .ok (.getfield 167, 3) := by decide +kernel
theorem dX8_book_75 : decode cX8_book 75 = .ok (.iload 4, 2) := by decide +kernel
theorem dX8_book_77 : decode cX8_book 77 = .ok (.invokevirtual 213, 3) := by decide +kernel
theorem dX8_book_80 : decode cX8_book 80 = .ok (.iload 7, 2) := by decide +kernel
theorem dX8_book_82 : decode cX8_book 82 = .ok (.invokestatic 116, 3) := by decide +kernel
theorem dX8_book_85 : decode cX8_book 85 = .ok (.ifCond .ne 6, 3) := by decide +kernel
theorem dX8_book_88 : decode cX8_book 88 = .ok (.iload 5, 2) := by decide +kernel
theorem dX8_book_90 : decode cX8_book 90 = .ok (.ireturn, 1) := by decide +kernel
theorem dX8_book_91 : decode cX8_book 91 = .ok (.iload 4, 2) := by decide +kernel
theorem dX8_book_93 : decode cX8_book 93 = .ok (.iconst 1, 1) := by decide +kernel
theorem dX8_book_94 : decode cX8_book 94 = .ok (.iload 7, 2) := by decide +kernel
theorem dX8_book_96 : decode cX8_book 96 = .ok (.ishl, 1) := by decide +kernel
theorem dX8_book_97 : decode cX8_book 97 = .ok (.ior, 1) := by decide +kernel
theorem dX8_book_98 : decode cX8_book 98 = .ok (.istore 4, 2) := by decide +kernel
theorem dX8_book_100 : decode cX8_book 100 = .ok (.iinc 5 1, 3) := by decide +kernel
theorem dX8_book_103 : decode cX8_book 103 = .ok (.iinc 6 1, 3) := by decide +kernel
theorem dX8_book_106 : decode cX8_book 106 = .ok (.goto (-72), 3) := by decide +kernel
theorem dX8_book_109 : decode cX8_book 109 = .ok (.iload 5, 2) := by decide +kernel
theorem dX8_book_111 : decode cX8_book 111 = .ok (.ireturn, 1) := by decide +kernel
theorem dX8_fee_0 : decode cX8_fee 0 = .ok (.aload_n 0, 1) := by decide +kernel
theorem dX8_fee_1 : decode cX8_fee 1 = .ok (.getfield 10, 3) := by decide +kernel
theorem dX8_fee_4 : decode cX8_fee 4 = .ok (.iconst 1, 1) := by decide +kernel
theorem dX8_fee_5 : decode cX8_fee 5 = .ok (.invokevirtual 216, 3) := by decide +kernel
theorem dX8_fee_8 : decode cX8_fee 8 = .ok (.astore_n 1, 1) := by decide +kernel
theorem dX8_fee_9 : decode cX8_fee 9 = .ok (.aload_n 1, 1) := by decide +kernel
theorem dX8_fee_10 : decode cX8_fee 10 = .ok (.ifnonnull 13, 3) := by decide +kernel
theorem dX8_fee_13 : decode cX8_fee 13 = .ok (.aload_n 0, 1) := by decide +kernel
theorem dX8_fee_14 : decode cX8_fee 14 = .ok (.getfield 10, 3) := by decide +kernel
theorem dX8_fee_17 : decode cX8_fee 17 = .ok (.getfield 158, 3) := by decide +kernel
theorem dX8_fee_20 : decode cX8_fee 20 = .ok (.goto 22, 3) := by decide +kernel
theorem dX8_fee_23 : decode cX8_fee 23 = .ok (.aload_n 1, 1) := by decide +kernel
theorem dX8_fee_24 : decode cX8_fee 24 = .ok (.aload_n 0, 1) := by decide +kernel
theorem dX8_fee_25 : decode cX8_fee 25 = .ok (.getfield 10, 3) := by decide +kernel
theorem dX8_fee_28 : decode cX8_fee 28 = .ok (.getfield 158, 3) := by decide +kernel
theorem dX8_fee_31 : decode cX8_fee 31 = .ok (.aload_n 0, 1) := by decide +kernel
theorem dX8_fee_32 : decode cX8_fee 32 = .ok (.getfield 10, 3) := by decide +kernel
theorem dX8_fee_35 : decode cX8_fee 35 = .ok (.getfield 149, 3) := by decide +kernel
theorem dX8_fee_38 : decode cX8_fee 38 = .ok (.iconst 0, 1) := by decide +kernel
theorem dX8_fee_39 : decode cX8_fee 39 = .ok (.invokevirtual 220, 3) := by decide +kernel
theorem dX8_fee_42 : decode cX8_fee 42 = .ok (.ireturn, 1) := by decide +kernel
theorem dX8_fine_0 : decode cX8_fine 0 = .ok (.aload_n 0, 1) := by decide +kernel
theorem dX8_fine_1 : decode cX8_fine 1 = .ok (.iload_n 1, 1) := by decide +kernel
theorem dX8_fine_2 : decode cX8_fine 2 = .ok (.invokevirtual 71, 3) := by decide +kernel
theorem dX8_fine_5 : decode cX8_fine 5 = .ok (.ifCond .ne 6, 3) := by decide +kernel
theorem dX8_fine_8 : decode cX8_fine 8 = .ok (.ldc 58, 2) := by decide +kernel
theorem dX8_fine_10 : decode cX8_fine 10 = .ok (.ireturn, 1) := by decide +kernel
theorem dX8_fine_11 : decode cX8_fine 11 = .ok (.aload_n 0, 1) := by decide +kernel
theorem dX8_fine_12 : decode cX8_fine 12 = .ok (.getfield 10, 3) := by decide +kernel
theorem dX8_fine_15 : decode cX8_fine 15 = .ok (.getfield 74, 3) := by decide +kernel
theorem dX8_fine_18 : decode cX8_fine 18 = .ok (.iload_n 1, 1) := by decide +kernel
theorem dX8_fine_19 : decode cX8_fine 19 = .ok (.aaload, 1) := by decide +kernel
theorem dX8_fine_20 : decode cX8_fine 20 = .ok (.astore_n 2, 1) := by decide +kernel
theorem dX8_fine_21 : decode cX8_fine 21 = .ok (.aload_n 0, 1) := by decide +kernel
theorem dX8_fine_22 : decode cX8_fine 22 = .ok (.getfield 10, 3) := by decide +kernel
theorem dX8_fine_25 : decode cX8_fine 25 = .ok (.iconst 2, 1) := by decide +kernel
theorem dX8_fine_26 : decode cX8_fine 26 = .ok (.invokevirtual 216, 3) := by decide +kernel
theorem dX8_fine_29 : decode cX8_fine 29 = .ok (.astore_n 3, 1) := by decide +kernel
theorem dX8_fine_30 : decode cX8_fine 30 = .ok (.aload_n 3, 1) := by decide +kernel
theorem dX8_fine_31 : decode cX8_fine 31 = .ok (.ifnonnull 10, 3) := by decide +kernel
theorem dX8_fine_34 : decode cX8_fine 34 = .ok (.aload_n 2, 1) := by decide +kernel
theorem dX8_fine_35 : decode cX8_fine 35 = .ok (.getfield 90, 3) := by decide +kernel
theorem dX8_fine_38 : decode cX8_fine 38 = .ok (.goto 16, 3) := by decide +kernel
theorem dX8_fine_41 : decode cX8_fine 41 = .ok (.aload_n 3, 1) := by decide +kernel
theorem dX8_fine_42 : decode cX8_fine 42 = .ok (.aload_n 2, 1) := by decide +kernel
theorem dX8_fine_43 : decode cX8_fine 43 = .ok (.getfield 87, 3) := by decide +kernel
theorem dX8_fine_46 : decode cX8_fine 46 = .ok (.aload_n 2, 1) := by decide +kernel
theorem dX8_fine_47 : decode cX8_fine 47 = .ok (.getfield 90, 3) := by decide +kernel
theorem dX8_fine_50 : decode cX8_fine 50 = .ok (.iconst 0, 1) := by decide +kernel
theorem dX8_fine_51 : decode cX8_fine 51 = .ok (.invokevirtual 220, 3) := by decide +kernel
theorem dX8_fine_54 : decode cX8_fine 54 = .ok (.ireturn, 1) := by decide +kernel
theorem dX8_feed_0 : decode cX8_feed 0 = .ok (.aload_n 0, 1) := by decide +kernel
theorem dX8_feed_1 : decode cX8_feed 1 = .ok (.getfield 32, 3) := by decide +kernel
theorem dX8_feed_4 : decode cX8_feed 4 = .ok (.getfield 225, 3) := by decide +kernel
theorem dX8_feed_7 : decode cX8_feed 7 = .ok (.bipush 12, 2) := by decide +kernel
theorem dX8_feed_9 : decode cX8_feed 9 = .ok (.iadd, 1) := by decide +kernel
theorem dX8_feed_10 : decode cX8_feed 10 = .ok (.bipush 96, 2) := by decide +kernel
theorem dX8_feed_12 : decode cX8_feed 12 = .ok (.if_icmp .le 6, 3) := by decide +kernel
theorem dX8_feed_15 : decode cX8_feed 15 = .ok (.ldc 228, 2) := by decide +kernel
theorem dX8_feed_17 : decode cX8_feed 17 = .ok (.ireturn, 1) := by decide +kernel
theorem dX8_feed_18 : decode cX8_feed 18 = .ok (.aload_n 0, 1) := by decide +kernel
theorem dX8_feed_19 : decode cX8_feed 19 = .ok (.getfield 32, 3) := by decide +kernel
theorem dX8_feed_22 : decode cX8_feed 22 = .ok (.iload_n 1, 1) := by decide +kernel
theorem dX8_feed_23 : decode cX8_feed 23 = .ok (.invokevirtual 229, 3) := by decide +kernel
theorem dX8_feed_26 : decode cX8_feed 26 = .ok (.aload_n 0, 1) := by decide +kernel
theorem dX8_feed_27 : decode cX8_feed 27 = .ok (.getfield 32, 3) := by decide +kernel
theorem dX8_feed_30 : decode cX8_feed 30 = .ok (.iload_n 2, 1) := by decide +kernel
theorem dX8_feed_31 : decode cX8_feed 31 = .ok (.invokevirtual 229, 3) := by decide +kernel
theorem dX8_feed_34 : decode cX8_feed 34 = .ok (.aload_n 0, 1) := by decide +kernel
theorem dX8_feed_35 : decode cX8_feed 35 = .ok (.getfield 32, 3) := by decide +kernel
theorem dX8_feed_38 : decode cX8_feed 38 = .ok (.iload_n 3, 1) := by decide +kernel
theorem dX8_feed_39 : decode cX8_feed 39 = .ok (.invokevirtual 229, 3) := by decide +kernel
theorem dX8_feed_42 : decode cX8_feed 42 = .ok (.aload_n 0, 1) := by decide +kernel
theorem dX8_feed_43 : decode cX8_feed 43 = .ok (.getfield 32, 3) := by decide +kernel
theorem dX8_feed_46 : decode cX8_feed 46 = .ok (.getfield 225, 3) := by decide +kernel
theorem dX8_feed_49 : decode cX8_feed 49 = .ok (.ireturn, 1) := by decide +kernel
theorem dX8_trim_0 : decode cX8_trim 0 = .ok (.iload_n 1, 1) := by decide +kernel
theorem dX8_trim_1 : decode cX8_trim 1 = .ok (.iconst 0, 1) := by decide +kernel
theorem dX8_trim_2 : decode cX8_trim 2 = .ok (.aload_n 0, 1) := by decide +kernel
theorem dX8_trim_3 : decode cX8_trim 3 = .ok (.getfield 32, 3) := by decide +kernel
theorem dX8_trim_6 : decode cX8_trim 6 = .ok (.getfield 225, 3) := by decide +kernel
theorem dX8_trim_9 : decode cX8_trim 9 = .ok (.invokestatic 54, 3) := by decide +kernel
theorem dX8_trim_12 : decode cX8_trim 12 = .ok (.ifCond .ne 6, 3) := by decide +kernel
theorem dX8_trim_15 : decode cX8_trim 15 = .ok (.ldc 58, 2) := by decide +kernel
theorem dX8_trim_17 : decode cX8_trim 17 = .ok (.ireturn, 1) := by decide +kernel
theorem dX8_trim_18 : decode cX8_trim 18 = .ok (.aload_n 0, 1) := by decide +kernel
theorem dX8_trim_19 : decode cX8_trim 19 = .ok (.getfield 32, 3) := by decide +kernel
theorem dX8_trim_22 : decode cX8_trim 22 = .ok (.iload_n 1, 1) := by decide +kernel
theorem dX8_trim_23 : decode cX8_trim 23 = .ok (.putfield 225, 3) := by decide +kernel
theorem dX8_trim_26 : decode cX8_trim 26 = .ok (.iload_n 1, 1) := by decide +kernel
theorem dX8_trim_27 : decode cX8_trim 27 = .ok (.ireturn, 1) := by decide +kernel
theorem dX8_text_0 : decode cX8_text 0 = .ok (.aload_n 0, 1) := by decide +kernel
theorem dX8_text_1 : decode cX8_text 1 = .ok (.getfield 32, 3) := by decide +kernel
theorem dX8_text_4 : decode cX8_text 4 = .ok (.invokevirtual 233, 3) := by decide +kernel
theorem dX8_text_7 : decode cX8_text 7 = .ok (.istore_n 1, 1) := by decide +kernel
theorem dX8_text_8 : decode cX8_text 8 = .ok (.aload_n 0, 1) := by decide +kernel
theorem dX8_text_9 : decode cX8_text 9 = .ok (.getfield 32, 3) := by decide +kernel
theorem dX8_text_12 : decode cX8_text 12 = .ok (.iconst 0, 1) := by decide +kernel
theorem dX8_text_13 : decode cX8_text 13 = .ok (.putfield 225, 3) := by decide +kernel
theorem dX8_text_16 : decode cX8_text 16 = .ok (.iload_n 1, 1) := by decide +kernel
theorem dX8_text_17 : decode cX8_text 17 = .ok (.ifCond .ge 20, 3) := by decide +kernel
theorem dX8_text_20 : decode cX8_text 20 = .ok (.aload_n 0, 1) := by decide +kernel
theorem dX8_text_21 : decode cX8_text 21 = .ok (.getfield 10, 3) := by decide +kernel
theorem dX8_text_24 : decode cX8_text 24 = .ok (.aload_n 0, 1) := by decide +kernel
theorem dX8_text_25 : decode cX8_text 25 = .ok (.getfield 32, 3) := by decide +kernel
theorem dX8_text_28 : decode cX8_text 28 = .ok (.invokevirtual 236, 3) := by decide +kernel
theorem dX8_text_31 : decode cX8_text 31 = .ok (.invokevirtual 240, 3) := by decide +kernel
theorem dX8_text_34 : decode cX8_text 34 = .ok (.goto 7, 3) := by decide +kernel
theorem dX8_text_37 : decode cX8_text 37 = .ok (.bipush (-100), 2) := by decide +kernel
theorem dX8_text_39 : decode cX8_text 39 = .ok (.iload_n 1, 1) := by decide +kernel
theorem dX8_text_40 : decode cX8_text 40 = .ok (.isub, 1) := by decide +kernel
theorem dX8_text_41 : decode cX8_text 41 = .ok (.ireturn, 1) := by decide +kernel
theorem dX8_textTold_0 : decode cX8_textTold 0 = .ok (.iload_n 1, 1) := by decide +kernel
theorem dX8_textTold_1 : decode cX8_textTold 1 = .ok (.iconst 0, 1) := by decide +kernel
theorem dX8_textTold_2 : decode cX8_textTold 2 = .ok (.aload_n 0, 1) := by decide +kernel
theorem dX8_textTold_3 : decode cX8_textTold 3 = .ok (.getfield 10, 3) := by decide +kernel
theorem dX8_textTold_6 : decode cX8_textTold 6 = .ok (.getfield 244, 3) := by decide +kernel
theorem dX8_textTold_9 : decode cX8_textTold 9 = .ok (.iconst 1, 1) := by decide +kernel
theorem dX8_textTold_10 : decode cX8_textTold 10 = .ok (.isub, 1) := by decide +kernel
theorem dX8_textTold_11 : decode cX8_textTold 11 = .ok (.invokestatic 54, 3) := by decide +kernel
theorem dX8_textTold_14 : decode cX8_textTold 14 = .ok (.ifCond .eq 12, 3) := by decide +kernel
theorem dX8_textTold_17 : decode cX8_textTold 17 = .ok (.iload_n 2, 1) := by decide +kernel
theorem dX8_textTold_18 : decode cX8_textTold 18 = .ok (.iconst 0, 1) := by decide +kernel
theorem dX8_textTold_19 : decode cX8_textTold 19 = .ok (.iconst 1, 1) := by decide +kernel
theorem dX8_textTold_20 : decode cX8_textTold 20 = .ok (.invokestatic 54, 3) := by decide +kernel
theorem dX8_textTold_23 : decode cX8_textTold 23 = .ok (.ifCond .ne 6, 3) := by decide +kernel
theorem dX8_textTold_26 : decode cX8_textTold 26 = .ok (.ldc 58, 2) := by decide +kernel
theorem dX8_textTold_28 : decode cX8_textTold 28 = .ok (.ireturn, 1) := by decide +kernel
theorem dX8_textTold_29 : decode cX8_textTold 29 = .ok (.aload_n 0, 1) := by decide +kernel
theorem dX8_textTold_30 : decode cX8_textTold 30 = .ok (.getfield 10, 3) := by decide +kernel
theorem dX8_textTold_33 : decode cX8_textTold 33 = .ok (.getfield 247, 3) := by decide +kernel
theorem dX8_textTold_36 : decode cX8_textTold 36 = .ok (.iload_n 1, 1) := by decide +kernel
theorem dX8_textTold_37 : decode cX8_textTold 37 = .ok (.aaload, 1) := by decide +kernel
theorem dX8_textTold_38 : decode cX8_textTold 38 = .ok (.astore_n 3, 1) := by decide +kernel
theorem dX8_textTold_39 : decode cX8_textTold 39 = .ok (.iload_n 2, 1) := by decide +kernel
theorem dX8_textTold_40 : decode cX8_textTold 40 = .ok (.ifCond .ne 10, 3) := by decide +kernel
theorem dX8_textTold_43 : decode cX8_textTold 43 = .ok (.aload_n 3, 1) := by decide +kernel
theorem dX8_textTold_44 : decode cX8_textTold 44 = .ok (.getfield 251, 3) := by decide +kernel
theorem dX8_textTold_47 : decode cX8_textTold 47 = .ok (.goto 7, 3) := by decide +kernel
theorem dX8_textTold_50 : decode cX8_textTold 50 = .ok (.aload_n 3, 1) := by decide +kernel
theorem dX8_textTold_51 : decode cX8_textTold 51 = .ok (.getfield 254, 3) := by decide +kernel
theorem dX8_textTold_54 : decode cX8_textTold 54 = .ok (.ireturn, 1) := by decide +kernel
theorem dX8_why_0 : decode cX8_why 0 = .ok (.iload_n 1, 1) := by decide +kernel
theorem dX8_why_1 : decode cX8_why 1 = .ok (.iconst 0, 1) := by decide +kernel
theorem dX8_why_2 : decode cX8_why 2 = .ok (.iconst 2, 1) := by decide +kernel
theorem dX8_why_3 : decode cX8_why 3 = .ok (.invokestatic 54, 3) := by decide +kernel
theorem dX8_why_6 : decode cX8_why 6 = .ok (.ifCond .eq 15, 3) := by decide +kernel
theorem dX8_why_9 : decode cX8_why 9 = .ok (.aload_n 0, 1) := by decide +kernel
theorem dX8_why_10 : decode cX8_why 10 = .ok (.getfield 10, 3) := by decide +kernel
theorem dX8_why_13 : decode cX8_why 13 = .ok (.getfield 257, 3) := by decide +kernel
theorem dX8_why_16 : decode cX8_why 16 = .ok (.iload_n 1, 1) := by decide +kernel
theorem dX8_why_17 : decode cX8_why 17 = .ok (.iaload, 1) := by decide +kernel
theorem dX8_why_18 : decode cX8_why 18 = .ok (.goto 5, 3) := by decide +kernel
theorem dX8_why_21 : decode cX8_why 21 = .ok (.ldc 58, 2) := by decide +kernel
theorem dX8_why_23 : decode cX8_why 23 = .ok (.ireturn, 1) := by decide +kernel
theorem dX8_sheet_0 : decode cX8_sheet 0 = .ok (.iload_n 1, 1) := by decide +kernel
theorem dX8_sheet_1 : decode cX8_sheet 1 = .ok (.invokestatic 260, 3) := by decide +kernel
theorem dX8_sheet_4 : decode cX8_sheet 4 = .ok (.ifCond .eq 12, 3) := by decide +kernel
theorem dX8_sheet_7 : decode cX8_sheet 7 = .ok (.iload_n 2, 1) := by decide +kernel
theorem dX8_sheet_8 : decode cX8_sheet 8 = .ok (.iconst (-1), 1) := by decide +kernel
theorem dX8_sheet_9 : decode cX8_sheet 9 = .ok (.iconst 1, 1) := by decide +kernel
theorem dX8_sheet_10 : decode cX8_sheet 10 = .ok (.invokestatic 54, 3) := by decide +kernel
theorem dX8_sheet_13 : decode cX8_sheet 13 = .ok (.ifCond .ne 6, 3) := by decide +kernel
theorem dX8_sheet_16 : decode cX8_sheet 16 = .ok (.ldc 58, 2) := by decide +kernel
theorem dX8_sheet_18 : decode cX8_sheet 18 = .ok (.ireturn, 1) := by decide +kernel
theorem dX8_sheet_19 : decode cX8_sheet 19 = .ok (.iload_n 2, 1) := by decide +kernel
theorem dX8_sheet_20 : decode cX8_sheet 20 = .ok (.iconst (-1), 1) := by decide +kernel
theorem dX8_sheet_21 : decode cX8_sheet 21 = .ok (.if_icmp .ne 16, 3) := by decide +kernel
theorem dX8_sheet_24 : decode cX8_sheet 24 = .ok (.aload_n 0, 1) := by decide +kernel
theorem dX8_sheet_25 : decode cX8_sheet 25 = .ok (.getfield 38, 3) := by decide +kernel
theorem dX8_sheet_28 : decode cX8_sheet 28 = .ok (.iload_n 1, 1) := by decide +kernel
theorem dX8_sheet_29 : decode cX8_sheet 29 = .ok (.aaload, 1) := by decide +kernel
theorem dX8_sheet_30 : decode cX8_sheet 30 = .ok (.iconst (-1), 1) := by decide +kernel
theorem dX8_sheet_31 : decode cX8_sheet 31 = .ok (.iconst 0, 1) := by decide +kernel
theorem dX8_sheet_32 : decode cX8_sheet 32 = .ok (.invokevirtual 263, 3) := by decide +kernel
theorem dX8_sheet_35 : decode cX8_sheet 35 = .ok (.iconst 0, 1) := by decide +kernel
theorem dX8_sheet_36 : decode cX8_sheet 36 = .ok (.ireturn, 1) := by decide +kernel
theorem dX8_sheet_37 : decode cX8_sheet 37 = .ok (.iload_n 3, 1) := by decide +kernel
theorem dX8_sheet_38 : decode cX8_sheet 38 = .ok (.bipush 24, 2) := by decide +kernel
theorem dX8_sheet_40 : decode cX8_sheet 40 = .ok (.if_icmp .le 6, 3) := by decide +kernel
theorem dX8_sheet_43 : decode cX8_sheet 43 = .ok (.ldc 58, 2) := by decide +kernel
theorem dX8_sheet_45 : decode cX8_sheet 45 = .ok (.ireturn, 1) := by decide +kernel
theorem dX8_sheet_46 : decode cX8_sheet 46 = .ok (.iload_n 3, 1) := by decide +kernel
theorem dX8_sheet_47 : decode cX8_sheet 47 = .ok (.ifCond .ge 7, 3) := by decide +kernel
theorem dX8_sheet_50 : decode cX8_sheet 50 = .ok (.ldc_w 267, 3) := by decide +kernel
theorem dX8_sheet_53 : decode cX8_sheet 53 = .ok (.ireturn, 1) := by decide +kernel
theorem dX8_sheet_54 : decode cX8_sheet 54 = .ok (.aload_n 0, 1) := by decide +kernel
theorem dX8_sheet_55 : decode cX8_sheet 55 = .ok (.getfield 38, 3) := by decide +kernel
theorem dX8_sheet_58 : decode cX8_sheet 58 = .ok (.iload_n 1, 1) := by decide +kernel
theorem dX8_sheet_59 : decode cX8_sheet 59 = .ok (.aaload, 1) := by decide +kernel
theorem dX8_sheet_60 : decode cX8_sheet 60 = .ok (.iload_n 2, 1) := by decide +kernel
theorem dX8_sheet_61 : decode cX8_sheet 61 = .ok (.iload_n 3, 1) := by decide +kernel
theorem dX8_sheet_62 : decode cX8_sheet 62 = .ok (.invokevirtual 263, 3) := by decide +kernel
theorem dX8_sheet_65 : decode cX8_sheet 65 = .ok (.iload_n 3, 1) := by decide +kernel
theorem dX8_sheet_66 : decode cX8_sheet 66 = .ok (.ireturn, 1) := by decide +kernel
theorem dX8_mark_0 : decode cX8_mark 0 = .ok (.aload_n 0, 1) := by decide +kernel
theorem dX8_mark_1 : decode cX8_mark 1 = .ok (.iload_n 1, 1) := by decide +kernel
theorem dX8_mark_2 : decode cX8_mark 2 = .ok (.invokevirtual 204, 3) := by decide +kernel
theorem dX8_mark_5 : decode cX8_mark 5 = .ok (.istore 4, 2) := by decide +kernel
theorem dX8_mark_7 : decode cX8_mark 7 = .ok (.iload 4, 2) := by decide +kernel
theorem dX8_mark_9 : decode cX8_mark 9 = .ok (.ifCond .eq 6, 3) := by decide +kernel
theorem dX8_mark_12 : decode cX8_mark 12 = .ok (.iload 4, 2) := by decide +kernel
theorem dX8_mark_14 : decode cX8_mark 14 = .ok (.ireturn, 1) := by decide +kernel
theorem dX8_mark_15 : decode cX8_mark 15 = .ok (.aload_n 0, 1) := by decide +kernel
theorem dX8_mark_16 : decode cX8_mark 16 = .ok (.getfield 38, 3) := by decide +kernel
theorem dX8_mark_19 : decode cX8_mark 19 = .ok (.iload_n 1, 1) := by decide +kernel
theorem dX8_mark_20 : decode cX8_mark 20 = .ok (.aaload, 1) := by decide +kernel
theorem dX8_mark_21 : decode cX8_mark 21 = .ok (.astore 5, 2) := by decide +kernel
theorem dX8_mark_23 : decode cX8_mark 23 = .ok (.aload 5, 2) := by decide +kernel
theorem dX8_mark_25 : decode cX8_mark 25 = .ok (.iload_n 2, 1) := by decide +kernel
theorem dX8_mark_26 : decode cX8_mark 26 = .ok (.invokevirtual 268, 3) := by decide +kernel
theorem dX8_mark_29 : decode cX8_mark 29 = .ok (.ifCond .ne 7, 3) := by decide +kernel
theorem dX8_mark_32 : decode cX8_mark 32 = .ok (.ldc_w 271, 3) := by decide +kernel
theorem dX8_mark_35 : decode cX8_mark 35 = .ok (.ireturn, 1) := by decide +kernel
theorem dX8_mark_36 : decode cX8_mark 36 = .ok (.aload 5, 2) := by decide +kernel
theorem dX8_mark_38 : decode cX8_mark 38 = .ok (.getfield 272, 3) := by decide +kernel
theorem dX8_mark_41 : decode cX8_mark 41 = .ok (.ifCond .ne 23, 3) := by decide +kernel
theorem dX8_mark_44 : decode cX8_mark 44 = .ok (.iload_n 3, 1) := by decide +kernel
theorem dX8_mark_45 : decode cX8_mark 45 = .ok (.ldc 127, 2) := by decide +kernel
theorem dX8_mark_47 : decode cX8_mark 47 = .ok (.if_icmp .ne 6, 3) := by decide +kernel
theorem dX8_mark_50 : decode cX8_mark 50 = .ok (.ldc 107, 2) := by decide +kernel
theorem dX8_mark_52 : decode cX8_mark 52 = .ok (.ireturn, 1) := by decide +kernel
theorem dX8_mark_53 : decode cX8_mark 53 = .ok (.aload 5, 2) := by decide +kernel
theorem dX8_mark_55 : decode cX8_mark 55 = .ok (.getfield 210, 3) := by decide +kernel
theorem dX8_mark_58 : decode cX8_mark 58 = .ok (.iload_n 2, 1) := by decide +kernel
theorem dX8_mark_59 : decode cX8_mark 59 = .ok (.iload_n 3, 1) := by decide +kernel
theorem dX8_mark_60 : decode cX8_mark 60 = .ok (.i2s, 1) := by decide +kernel
theorem dX8_mark_61 : decode cX8_mark 61 = .ok (.iastore, 1) := by decide +kernel
theorem dX8_mark_62 : decode cX8_mark 62 = .ok (.iconst 1, 1) := by decide +kernel
theorem dX8_mark_63 : decode cX8_mark 63 = .ok (.ireturn, 1) := by decide +kernel
theorem dX8_mark_64 : decode cX8_mark 64 = .ok (.iload_n 3, 1) := by decide +kernel
theorem dX8_mark_65 : decode cX8_mark 65 = .ok (.ldc 127, 2) := by decide +kernel
theorem dX8_mark_67 : decode cX8_mark 67 = .ok (.if_icmp .eq 19, 3) := by decide +kernel
theorem dX8_mark_70 : decode cX8_mark 70 = .ok (.iload_n 3, 1) := by decide +kernel
theorem dX8_mark_71 : decode cX8_mark 71 = .ok (.ldc_w 275, 3) := by decide +kernel
theorem dX8_mark_74 : decode cX8_mark 74 = .ok (.ldc_w 276, 3) := by decide +kernel
theorem dX8_mark_77 : decode cX8_mark 77 = .ok (.invokestatic 54, 3) := by decide +kernel
theorem dX8_mark_80 : decode cX8_mark 80 = .ok (.ifCond .ne 6, 3) := by decide +kernel
theorem dX8_mark_83 : decode cX8_mark 83 = .ok (.ldc 58, 2) := by decide +kernel
theorem dX8_mark_85 : decode cX8_mark 85 = .ok (.ireturn, 1) := by decide +kernel
theorem dX8_mark_86 : decode cX8_mark 86 = .ok (.aload 5, 2) := by decide +kernel
theorem dX8_mark_88 : decode cX8_mark 88 = .ok (.getfield 210, 3) := by decide +kernel
theorem dX8_mark_91 : decode cX8_mark 91 = .ok (.iload_n 2, 1) := by decide +kernel
theorem dX8_mark_92 : decode cX8_mark 92 = .ok (.iload_n 3, 1) := by decide +kernel
theorem dX8_mark_93 : decode cX8_mark 93 = .ok (.iastore, 1) := by decide +kernel
theorem dX8_mark_94 : decode cX8_mark 94 = .ok (.iconst 1, 1) := by decide +kernel
theorem dX8_mark_95 : decode cX8_mark 95 = .ok (.ireturn, 1) := by decide +kernel
theorem dX8_pour_0 : decode cX8_pour 0 = .ok (.aload_n 0, 1) := by decide +kernel
theorem dX8_pour_1 : decode cX8_pour 1 = .ok (.iload_n 1, 1) := by decide +kernel
theorem dX8_pour_2 : decode cX8_pour 2 = .ok (.invokevirtual 204, 3) := by decide +kernel
theorem dX8_pour_5 : decode cX8_pour 5 = .ok (.istore_n 2, 1) := by decide +kernel
theorem dX8_pour_6 : decode cX8_pour 6 = .ok (.iload_n 2, 1) := by decide +kernel
theorem dX8_pour_7 : decode cX8_pour 7 = .ok (.ifCond .eq 5, 3) := by decide +kernel
theorem dX8_pour_10 : decode cX8_pour 10 = .ok (.iload_n 2, 1) := by decide +kernel
theorem dX8_pour_11 : decode cX8_pour 11 = .ok (.ireturn, 1) := by decide +kernel
theorem dX8_pour_12 : decode cX8_pour 12 = .ok (.aload_n 0, 1) := by decide +kernel
theorem dX8_pour_13 : decode cX8_pour 13 = .ok (.getfield 38, 3) := by decide +kernel
theorem dX8_pour_16 : decode cX8_pour 16 = .ok (.iload_n 1, 1) := by decide +kernel
theorem dX8_pour_17 : decode cX8_pour 17 = .ok (.aaload, 1) := by decide +kernel
theorem dX8_pour_18 : decode cX8_pour 18 = .ok (.astore_n 3, 1) := by decide +kernel
theorem dX8_pour_19 : decode cX8_pour 19 = .ok (.iconst 0, 1) := by decide +kernel
theorem dX8_pour_20 : decode cX8_pour 20 = .ok (.istore 4, 2) := by decide +kernel
theorem dX8_pour_22 : decode cX8_pour 22 = .ok (.iconst 0, 1) := by decide +kernel
theorem dX8_pour_23 : decode cX8_pour 23 = .ok (.istore 5, 2) := by decide +kernel
theorem dX8_pour_25 : decode cX8_pour 25 = .ok (.iload 5, 2) := by decide +kernel
theorem dX8_pour_27 : decode cX8_pour 27 = .ok (.aload_n 0, 1) := by decide +kernel
theorem dX8_pour_28 : decode cX8_pour 28 = .ok (.getfield 10, 3) := by decide +kernel
theorem dX8_pour_31 : decode cX8_pour 31 = .ok (.getfield 167, 3) := by decide +kernel
theorem dX8_pour_34 : decode cX8_pour 34 = .ok (.getfield 277, 3) := by decide +kernel
theorem dX8_pour_37 : decode cX8_pour 37 = .ok (.if_icmp .ge 75, 3) := by decide +kernel
theorem dX8_pour_40 : decode cX8_pour 40 = .ok (.iload 5, 2) := by decide +kernel
theorem dX8_pour_42 : decode cX8_pour 42 = .ok (.aload_n 3, 1) := by decide +kernel
theorem dX8_pour_43 : decode cX8_pour 43 = .ok (.getfield 207, 3) := by decide +kernel
theorem dX8_pour_46 : decode cX8_pour 46 = .ok (.if_icmp .ge 66, 3) := by decide +kernel
theorem dX8_pour_49 : decode cX8_pour 49 = .ok (.aload_n 3, 1) := by decide +kernel
theorem dX8_pour_50 : decode cX8_pour 50 = .ok (.getfield 210, 3) := by decide +kernel
theorem dX8_pour_53 : decode cX8_pour 53 = .ok (.iload 5, 2) := by decide +kernel
theorem dX8_pour_55 : decode cX8_pour 55 = .ok (.iaload, 1) := by decide +kernel
theorem dX8_pour_56 : decode cX8_pour 56 = .ok (.ldc 127, 2) := by decide +kernel
theorem dX8_pour_58 : decode cX8_pour 58 = .ok (.if_icmp .eq 48, 3) := by decide +kernel
theorem dX8_pour_61 : decode cX8_pour 61 = .ok (.aload_n 3, 1) := by decide +kernel
theorem dX8_pour_62 : decode cX8_pour 62 = .ok (.getfield 210, 3) := by decide +kernel
theorem dX8_pour_65 : decode cX8_pour 65 = .ok (.iload 5, 2) := by decide +kernel
theorem dX8_pour_67 : decode cX8_pour 67 = .ok (.iaload, 1) := by decide +kernel
theorem dX8_pour_68 : decode cX8_pour 68 = .ok (.iconst 0, 1) := by decide +kernel
theorem dX8_pour_69 : decode cX8_pour 69 = .ok (.bipush 99, 2) := by decide +kernel
theorem dX8_pour_71 : decode cX8_pour 71 = .ok (.invokestatic 278, 3) := by decide +kernel
theorem dX8_pour_74 : decode cX8_pour 74 = .ok (.istore 6, 2) := by decide +kernel
theorem dX8_pour_76 : decode cX8_pour 76 = .ok (.iload 6, 2) := by decide +kernel
theorem dX8_pour_78 : decode cX8_pour 78 = .ok (.aload_n 0, 1) := by decide +kernel
theorem dX8_pour_79 : decode cX8_pour 79 = .ok (.getfield 10, 3) := by decide +kernel
theorem dX8_pour_82 : decode cX8_pour 82 = .ok (.getfield 128, 3) := by decide +kernel
theorem dX8_pour_85 : decode cX8_pour 85 = .ok (.iload 5, 2) := by decide +kernel
theorem dX8_pour_87 : decode cX8_pour 87 = .ok (.iaload, 1) := by decide +kernel
theorem dX8_pour_88 : decode cX8_pour 88 = .ok (.if_icmp .eq 18, 3) := by decide +kernel
theorem dX8_pour_91 : decode cX8_pour 91 = .ok (.aload_n 0, 1) := by decide +kernel
theorem dX8_pour_92 : decode cX8_pour 92 = .ok (.getfield 10, 3) := by decide +kernel
theorem dX8_pour_95 : decode cX8_pour 95 = .ok (.getfield 128, 3) := by decide +kernel
theorem dX8_pour_98 : decode cX8_pour 98 = .ok (.iload 5, 2) := by decide +kernel
theorem dX8_pour_100 : decode cX8_pour 100 = .ok (.iload 6, 2) := by decide +kernel
theorem dX8_pour_102 : decode cX8_pour 102 = .ok (.iastore, 1) := by decide +kernel
theorem dX8_pour_103 : decode cX8_pour 103 = .ok (.iinc 4 1, 3) := by decide +kernel
theorem dX8_pour_106 : decode cX8_pour 106 = .ok (.iinc 5 1, 3) := by decide +kernel
theorem dX8_pour_109 : decode cX8_pour 109 = .ok (.goto (-84), 3) := by decide +kernel
theorem dX8_pour_112 : decode cX8_pour 112 = .ok (.iload 4, 2) := by decide +kernel
theorem dX8_pour_114 : decode cX8_pour 114 = .ok (.ireturn, 1) := by decide +kernel
theorem dX8_reads_0 : decode cX8_reads 0 = .ok (.aload_n 0, 1) := by decide +kernel
theorem dX8_reads_1 : decode cX8_reads 1 = .ok (.iload_n 1, 1) := by decide +kernel
theorem dX8_reads_2 : decode cX8_reads 2 = .ok (.invokevirtual 204, 3) := by decide +kernel
theorem dX8_reads_5 : decode cX8_reads 5 = .ok (.istore_n 2, 1) := by decide +kernel
theorem dX8_reads_6 : decode cX8_reads 6 = .ok (.iload_n 2, 1) := by decide +kernel
theorem dX8_reads_7 : decode cX8_reads 7 = .ok (.ifCond .eq 5, 3) := by decide +kernel
theorem dX8_reads_10 : decode cX8_reads 10 = .ok (.iload_n 2, 1) := by decide +kernel
theorem dX8_reads_11 : decode cX8_reads 11 = .ok (.ireturn, 1) := by decide +kernel
theorem dX8_reads_12 : decode cX8_reads 12 = .ok (.aload_n 0, 1) := by decide +kernel
theorem dX8_reads_13 : decode cX8_reads 13 = .ok (.getfield 38, 3) := by decide +kernel
theorem dX8_reads_16 : decode cX8_reads 16 = .ok (.iload_n 1, 1) := by decide +kernel
theorem dX8_reads_17 : decode cX8_reads 17 = .ok (.aaload, 1) := by decide +kernel
theorem dX8_reads_18 : decode cX8_reads 18 = .ok (.astore_n 3, 1) := by decide +kernel
theorem dX8_reads_19 : decode cX8_reads 19 = .ok (.iconst 0, 1) := by decide +kernel
theorem dX8_reads_20 : decode cX8_reads 20 = .ok (.istore 4, 2) := by decide +kernel
theorem dX8_reads_22 : decode cX8_reads 22 = .ok (.iload 4, 2) := by decide +kernel
theorem dX8_reads_24 : decode cX8_reads 24 = .ok (.aload_n 3, 1) := by decide +kernel
theorem dX8_reads_25 : decode cX8_reads 25 = .ok (.getfield 207, 3) := by decide +kernel
theorem dX8_reads_28 : decode cX8_reads 28 = .ok (.if_icmp .ge 56, 3) := by decide +kernel
theorem dX8_reads_31 : decode cX8_reads 31 = .ok (.aload_n 3, 1) := by decide +kernel
theorem dX8_reads_32 : decode cX8_reads 32 = .ok (.getfield 210, 3) := by decide +kernel
theorem dX8_reads_35 : decode cX8_reads 35 = .ok (.iload 4, 2) := by decide +kernel
theorem dX8_reads_37 : decode cX8_reads 37 = .ok (.iaload, 1) := by decide +kernel
theorem dX8_reads_38 : decode cX8_reads 38 = .ok (.ldc 127, 2) := by decide +kernel
theorem dX8_reads_40 : decode cX8_reads 40 = .ok (.if_icmp .eq 38, 3) := by decide +kernel
theorem dX8_reads_43 : decode cX8_reads 43 = .ok (.aload_n 0, 1) := by decide +kernel
theorem dX8_reads_44 : decode cX8_reads 44 = .ok (.iload 4, 2) := by decide +kernel
theorem dX8_reads_46 : decode cX8_reads 46 = .ok (.invokevirtual 71, 3) := by decide +kernel
theorem dX8_reads_49 : decode cX8_reads 49 = .ok (.ifCond .eq 26, 3) := by decide +kernel
theorem dX8_reads_52 : decode cX8_reads 52 = .ok (.aload_n 3, 1) := by decide +kernel
theorem dX8_reads_53 : decode cX8_reads 53 = .ok (.getfield 210, 3) := by decide +kernel
theorem dX8_reads_56 : decode cX8_reads 56 = .ok (.iload 4, 2) := by decide +kernel
theorem dX8_reads_58 : decode cX8_reads 58 = .ok (.iaload, 1) := by decide +kernel
theorem dX8_reads_59 : decode cX8_reads 59 = .ok (.aload_n 0, 1) := by decide +kernel
theorem dX8_reads_60 : decode cX8_reads 60 = .ok (.getfield 10, 3) := by decide +kernel
theorem dX8_reads_63 : decode cX8_reads 63 = .ok (.getfield 74, 3) := by decide +kernel
theorem dX8_reads_66 : decode cX8_reads 66 = .ok (.iload 4, 2) := by decide +kernel
theorem dX8_reads_68 : decode cX8_reads 68 = .ok (.aaload, 1) := by decide +kernel
theorem dX8_reads_69 : decode cX8_reads 69 = .ok (.getfield 87, 3) := by decide +kernel
theorem dX8_reads_72 : decode cX8_reads 72 = .ok (.if_icmp .eq 6, 3) := by decide +kernel
theorem dX8_reads_75 : decode cX8_reads 75 = .ok (.iload 4, 2) := by decide +kernel
theorem dX8_reads_77 : decode cX8_reads 77 = .ok (.ireturn, 1) := by decide +kernel
theorem dX8_reads_78 : decode cX8_reads 78 = .ok (.iinc 4 1, 3) := by decide +kernel
theorem dX8_reads_81 : decode cX8_reads 81 = .ok (.goto (-59), 3) := by decide +kernel
theorem dX8_reads_84 : decode cX8_reads 84 = .ok (.ldc 127, 2) := by decide +kernel
theorem dX8_reads_86 : decode cX8_reads 86 = .ok (.ireturn, 1) := by decide +kernel
theorem dX8_copy_0 : decode cX8_copy 0 = .ok (.iload_n 1, 1) := by decide +kernel
theorem dX8_copy_1 : decode cX8_copy 1 = .ok (.invokestatic 260, 3) := by decide +kernel
theorem dX8_copy_4 : decode cX8_copy 4 = .ok (.ifCond .eq 10, 3) := by decide +kernel
theorem dX8_copy_7 : decode cX8_copy 7 = .ok (.iload_n 3, 1) := by decide +kernel
theorem dX8_copy_8 : decode cX8_copy 8 = .ok (.invokestatic 260, 3) := by decide +kernel
theorem dX8_copy_11 : decode cX8_copy 11 = .ok (.ifCond .ne 6, 3) := by decide +kernel
theorem dX8_copy_14 : decode cX8_copy 14 = .ok (.ldc 58, 2) := by decide +kernel
theorem dX8_copy_16 : decode cX8_copy 16 = .ok (.ireturn, 1) := by decide +kernel
theorem dX8_copy_17 : decode cX8_copy 17 = .ok (.aload_n 0, 1) := by decide +kernel
theorem dX8_copy_18 : decode cX8_copy 18 = .ok (.getfield 38, 3) := by decide +kernel
theorem dX8_copy_21 : decode cX8_copy 21 = .ok (.iload_n 1, 1) := by decide +kernel
theorem dX8_copy_22 : decode cX8_copy 22 = .ok (.aaload, 1) := by decide +kernel
theorem dX8_copy_23 : decode cX8_copy 23 = .ok (.astore 6, 2) := by decide +kernel
theorem dX8_copy_25 : decode cX8_copy 25 = .ok (.aload_n 0, 1) := by decide +kernel
theorem dX8_copy_26 : decode cX8_copy 26 = .ok (.getfield 38, 3) := by decide +kernel
theorem dX8_copy_29 : decode cX8_copy 29 = .ok (.iload_n 3, 1) := by decide +kernel
theorem dX8_copy_30 : decode cX8_copy 30 = .ok (.aaload, 1) := by decide +kernel
theorem dX8_copy_31 : decode cX8_copy 31 = .ok (.astore 7, 2) := by decide +kernel
theorem dX8_copy_33 : decode cX8_copy 33 = .ok (.aload 6, 2) := by decide +kernel
theorem dX8_copy_35 : decode cX8_copy 35 = .ok (.getfield 272, 3) := by decide +kernel
theorem dX8_copy_38 : decode cX8_copy 38 = .ok (.iconst (-1), 1) := by decide +kernel
theorem dX8_copy_39 : decode cX8_copy 39 = .ok (.if_icmp .eq 12, 3) := by decide +kernel
theorem dX8_copy_42 : decode cX8_copy 42 = .ok (.aload 7, 2) := by decide +kernel
theorem dX8_copy_44 : decode cX8_copy 44 = .ok (.getfield 272, 3) := by decide +kernel
theorem dX8_copy_47 : decode cX8_copy 47 = .ok (.iconst (-1), 1) := by decide +kernel
theorem dX8_copy_48 : decode cX8_copy 48 = .ok (.if_icmp .ne 7, 3) := by decide +kernel
theorem dX8_copy_51 : decode cX8_copy 51 = .ok (.ldc_w 281, 3) := by decide +kernel
theorem dX8_copy_54 : decode cX8_copy 54 = .ok (.ireturn, 1) := by decide +kernel
theorem dX8_copy_55 : decode cX8_copy 55 = .ok (.aload 6, 2) := by decide +kernel
theorem dX8_copy_57 : decode cX8_copy 57 = .ok (.getfield 272, 3) := by decide +kernel
theorem dX8_copy_60 : decode cX8_copy 60 = .ok (.aload 7, 2) := by decide +kernel
theorem dX8_copy_62 : decode cX8_copy 62 = .ok (.getfield 272, 3) := by decide +kernel
theorem dX8_copy_65 : decode cX8_copy 65 = .ok (.if_icmp .eq 6, 3) := by decide +kernel
theorem dX8_copy_68 : decode cX8_copy 68 = .ok (.ldc 107, 2) := by decide +kernel
theorem dX8_copy_70 : decode cX8_copy 70 = .ok (.ireturn, 1) := by decide +kernel
theorem dX8_copy_71 : decode cX8_copy 71 = .ok (.aload 6, 2) := by decide +kernel
theorem dX8_copy_73 : decode cX8_copy 73 = .ok (.iload_n 2, 1) := by decide +kernel
theorem dX8_copy_74 : decode cX8_copy 74 = .ok (.iload 5, 2) := by decide +kernel
theorem dX8_copy_76 : decode cX8_copy 76 = .ok (.invokevirtual 282, 3) := by decide +kernel
theorem dX8_copy_79 : decode cX8_copy 79 = .ok (.ifCond .eq 15, 3) := by decide +kernel
theorem dX8_copy_82 : decode cX8_copy 82 = .ok (.aload 7, 2) := by decide +kernel
theorem dX8_copy_84 : decode cX8_copy 84 = .ok (.iload 4, 2) := by decide +kernel
theorem dX8_copy_86 : decode cX8_copy 86 = .ok (.iload 5, 2) := by decide +kernel
theorem dX8_copy_88 : decode cX8_copy 88 = .ok (.invokevirtual 282, 3) := by decide +kernel
theorem dX8_copy_91 : decode cX8_copy 91 = .ok (.ifCond .ne 7, 3) := by decide +kernel
theorem dX8_copy_94 : decode cX8_copy 94 = .ok (.ldc_w 271, 3) := by decide +kernel
theorem dX8_copy_97 : decode cX8_copy 97 = .ok (.ireturn, 1) := by decide +kernel
theorem dX8_copy_98 : decode cX8_copy 98 = .ok (.aload 6, 2) := by decide +kernel
theorem dX8_copy_100 : decode cX8_copy 100 = .ok (.getfield 210, 3) := by decide +kernel
theorem dX8_copy_103 : decode cX8_copy 103 = .ok (.iload_n 2, 1) := by decide +kernel
theorem dX8_copy_104 : decode cX8_copy 104 = .ok (.aload 7, 2) := by decide +kernel
theorem dX8_copy_106 : decode cX8_copy 106 = .ok (.getfield 210, 3) := by decide +kernel
theorem dX8_copy_109 : decode cX8_copy 109 = .ok (.iload 4, 2) := by decide +kernel
theorem dX8_copy_111 : decode cX8_copy 111 = .ok (.iload 5, 2) := by decide +kernel
theorem dX8_copy_113 : decode cX8_copy 113 = .ok (.invokestatic 285, 3) := by decide +kernel
theorem dX8_copy_116 : decode cX8_copy 116 = .ok (.iload 5, 2) := by decide +kernel
theorem dX8_copy_118 : decode cX8_copy 118 = .ok (.ireturn, 1) := by decide +kernel
theorem dX8_lay_0 : decode cX8_lay 0 = .ok (.iload_n 1, 1) := by decide +kernel
theorem dX8_lay_1 : decode cX8_lay 1 = .ok (.invokestatic 291, 3) := by decide +kernel
theorem dX8_lay_4 : decode cX8_lay 4 = .ok (.ifCond .eq 12, 3) := by decide +kernel
theorem dX8_lay_7 : decode cX8_lay 7 = .ok (.iload_n 2, 1) := by decide +kernel
theorem dX8_lay_8 : decode cX8_lay 8 = .ok (.iconst 0, 1) := by decide +kernel
theorem dX8_lay_9 : decode cX8_lay 9 = .ok (.iconst 3, 1) := by decide +kernel
theorem dX8_lay_10 : decode cX8_lay 10 = .ok (.invokestatic 54, 3) := by decide +kernel
theorem dX8_lay_13 : decode cX8_lay 13 = .ok (.ifCond .ne 6, 3) := by decide +kernel
theorem dX8_lay_16 : decode cX8_lay 16 = .ok (.ldc 58, 2) := by decide +kernel
theorem dX8_lay_18 : decode cX8_lay 18 = .ok (.ireturn, 1) := by decide +kernel
theorem dX8_lay_19 : decode cX8_lay 19 = .ok (.iload_n 2, 1) := by decide +kernel
theorem dX8_lay_20 : decode cX8_lay 20 = .ok (.iconst 1, 1) := by decide +kernel
theorem dX8_lay_21 : decode cX8_lay 21 = .ok (.if_icmp .ne 14, 3) := by decide +kernel
theorem dX8_lay_24 : decode cX8_lay 24 = .ok (.aload_n 0, 1) := by decide +kernel
theorem dX8_lay_25 : decode cX8_lay 25 = .ok (.iload_n 3, 1) := by decide +kernel
theorem dX8_lay_26 : decode cX8_lay 26 = .ok (.invokevirtual 71, 3) := by decide +kernel
theorem dX8_lay_29 : decode cX8_lay 29 = .ok (.ifCond .ne 6, 3) := by decide +kernel
theorem dX8_lay_32 : decode cX8_lay 32 = .ok (.ldc 58, 2) := by decide +kernel
theorem dX8_lay_34 : decode cX8_lay 34 = .ok (.ireturn, 1) := by decide +kernel
theorem dX8_lay_35 : decode cX8_lay 35 = .ok (.iload_n 2, 1) := by decide +kernel
theorem dX8_lay_36 : decode cX8_lay 36 = .ok (.iconst 2, 1) := by decide +kernel
theorem dX8_lay_37 : decode cX8_lay 37 = .ok (.if_icmp .ne 17, 3) := by decide +kernel
theorem dX8_lay_40 : decode cX8_lay 40 = .ok (.aload_n 0, 1) := by decide +kernel
theorem dX8_lay_41 : decode cX8_lay 41 = .ok (.iload_n 3, 1) := by decide +kernel
theorem dX8_lay_42 : decode cX8_lay 42 = .ok (.invokevirtual 204, 3) := by decide +kernel
theorem dX8_lay_45 : decode cX8_lay 45 = .ok (.ifCond .eq 9, 3) := by decide +kernel
theorem dX8_lay_48 : decode cX8_lay 48 = .ok (.aload_n 0, 1) := by decide +kernel
theorem dX8_lay_49 : decode cX8_lay 49 = .ok (.iload_n 3, 1) := by decide +kernel
theorem dX8_lay_50 : decode cX8_lay 50 = .ok (.invokevirtual 204, 3) := by decide +kernel
theorem dX8_lay_53 : decode cX8_lay 53 = .ok (.ireturn, 1) := by decide +kernel
theorem dX8_lay_54 : decode cX8_lay 54 = .ok (.aload_n 0, 1) := by decide +kernel
theorem dX8_lay_55 : decode cX8_lay 55 = .ok (.getfield 44, 3) := by decide +kernel
theorem dX8_lay_58 : decode cX8_lay 58 = .ok (.iload_n 1, 1) := by decide +kernel
theorem dX8_lay_59 : decode cX8_lay 59 = .ok (.aaload, 1) := by decide +kernel
theorem dX8_lay_60 : decode cX8_lay 60 = .ok (.astore 4, 2) := by decide +kernel
theorem dX8_lay_62 : decode cX8_lay 62 = .ok (.aload 4, 2) := by decide +kernel
theorem dX8_lay_64 : decode cX8_lay 64 = .ok (.getfield 294, 3) := by decide +kernel
theorem dX8_lay_67 : decode cX8_lay 67 = .ok (.istore 5, 2) := by decide +kernel
theorem dX8_lay_69 : decode cX8_lay 69 = .ok (.aload 4, 2) := by decide +kernel
theorem dX8_lay_71 : decode cX8_lay 71 = .ok (.iload_n 2, 1) := by decide +kernel
theorem dX8_lay_72 : decode cX8_lay 72 = .ok (.putfield 294, 3) := by decide +kernel
theorem dX8_lay_75 : decode cX8_lay 75 = .ok (.iload_n 2, 1) := by decide +kernel
theorem dX8_lay_76 : decode cX8_lay 76 = .ok (.iconst 1, 1) := by decide +kernel
theorem dX8_lay_77 : decode cX8_lay 77 = .ok (.if_icmp .ne 23, 3) := by decide +kernel
theorem dX8_lay_80 : decode cX8_lay 80 = .ok (.aload 4, 2) := by decide +kernel
theorem dX8_lay_82 : decode cX8_lay 82 = .ok (.getfield 297, 3) := by decide +kernel
theorem dX8_lay_85 : decode cX8_lay 85 = .ok (.aload_n 0, 1) := by decide +kernel
theorem dX8_lay_86 : decode cX8_lay 86 = .ok (.getfield 10, 3) := by decide +kernel
theorem dX8_lay_89 : decode cX8_lay 89 = .ok (.getfield 74, 3) := by decide +kernel
theorem dX8_lay_92 : decode cX8_lay 92 = .ok (.iload_n 3, 1) := by decide +kernel
theorem dX8_lay_93 : decode cX8_lay 93 = .ok (.aaload, 1) := by decide +kernel
theorem dX8_lay_94 : decode cX8_lay 94 = .ok (.invokevirtual 301, 3) := by decide +kernel
theorem dX8_lay_97 : decode cX8_lay 97 = .ok (.goto 31, 3) := by decide +kernel
theorem dX8_lay_100 : decode cX8_lay 100 = .ok (.iload_n 2, 1) := by decide +kernel
theorem dX8_lay_101 : decode cX8_lay 101 = .ok (.iconst 2, 1) := by decide +kernel
theorem dX8_lay_102 : decode cX8_lay 102 = .ok (.if_icmp .ne 20, 3) := by decide +kernel
theorem dX8_lay_105 : decode cX8_lay 105 = .ok (.aload 4, 2) := by decide +kernel
theorem dX8_lay_107 : decode cX8_lay 107 = .ok (.getfield 304, 3) := by decide +kernel
theorem dX8_lay_110 : decode cX8_lay 110 = .ok (.aload_n 0, 1) := by decide +kernel
theorem dX8_lay_111 : decode cX8_lay 111 = .ok (.getfield 38, 3) := by decide +kernel
theorem dX8_lay_114 : decode cX8_lay 114 = .ok (.iload_n 3, 1) := by decide +kernel
theorem dX8_lay_115 : decode cX8_lay 115 = .ok (.aaload, 1) := by decide +kernel
theorem dX8_lay_116 : decode cX8_lay 116 = .ok (.invokevirtual 308, 3) := by decide +kernel
theorem dX8_lay_119 : decode cX8_lay 119 = .ok (.goto 9, 3) := by decide +kernel
theorem dX8_lay_122 : decode cX8_lay 122 = .ok (.aload 4, 2) := by decide +kernel
theorem dX8_lay_124 : decode cX8_lay 124 = .ok (.iload_n 3, 1) := by decide +kernel
theorem dX8_lay_125 : decode cX8_lay 125 = .ok (.putfield 311, 3) := by decide +kernel
theorem dX8_lay_128 : decode cX8_lay 128 = .ok (.iload 5, 2) := by decide +kernel
theorem dX8_lay_130 : decode cX8_lay 130 = .ok (.ireturn, 1) := by decide +kernel
theorem dX8_ask_0 : decode cX8_ask 0 = .ok (.iload_n 1, 1) := by decide +kernel
theorem dX8_ask_1 : decode cX8_ask 1 = .ok (.invokestatic 291, 3) := by decide +kernel
theorem dX8_ask_4 : decode cX8_ask 4 = .ok (.ifCond .eq 10, 3) := by decide +kernel
theorem dX8_ask_7 : decode cX8_ask 7 = .ok (.iload_n 2, 1) := by decide +kernel
theorem dX8_ask_8 : decode cX8_ask 8 = .ok (.invokestatic 63, 3) := by decide +kernel
theorem dX8_ask_11 : decode cX8_ask 11 = .ok (.ifCond .ne 6, 3) := by decide +kernel
theorem dX8_ask_14 : decode cX8_ask 14 = .ok (.ldc 58, 2) := by decide +kernel
theorem dX8_ask_16 : decode cX8_ask 16 = .ok (.ireturn, 1) := by decide +kernel
theorem dX8_ask_17 : decode cX8_ask 17 = .ok (.aload_n 0, 1) := by decide +kernel
theorem dX8_ask_18 : decode cX8_ask 18 = .ok (.getfield 44, 3) := by decide +kernel
theorem dX8_ask_21 : decode cX8_ask 21 = .ok (.iload_n 1, 1) := by decide +kernel
theorem dX8_ask_22 : decode cX8_ask 22 = .ok (.aaload, 1) := by decide +kernel
theorem dX8_ask_23 : decode cX8_ask 23 = .ok (.astore_n 3, 1) := by decide +kernel
theorem dX8_ask_24 : decode cX8_ask 24 = .ok (.aload_n 3, 1) := by decide +kernel
theorem dX8_ask_25 : decode cX8_ask 25 = .ok (.getfield 294, 3) := by decide +kernel
theorem dX8_ask_28 : decode cX8_ask 28 = .ok (.ifCond .ne 7, 3) := by decide +kernel
theorem dX8_ask_31 : decode cX8_ask 31 = .ok (.ldc_w 281, 3) := by decide +kernel
theorem dX8_ask_34 : decode cX8_ask 34 = .ok (.ireturn, 1) := by decide +kernel
theorem dX8_ask_35 : decode cX8_ask 35 = .ok (.aload_n 3, 1) := by decide +kernel
theorem dX8_ask_36 : decode cX8_ask 36 = .ok (.getfield 294, 3) := by decide +kernel
theorem dX8_ask_39 : decode cX8_ask 39 = .ok (.iconst 1, 1) := by decide +kernel
theorem dX8_ask_40 : decode cX8_ask 40 = .ok (.if_icmp .ne 24, 3) := by decide +kernel
theorem dX8_ask_43 : decode cX8_ask 43 = .ok (.aload_n 3, 1) := by decide +kernel
theorem dX8_ask_44 : decode cX8_ask 44 = .ok (.getfield 297, 3) := by decide +kernel
theorem dX8_ask_47 : decode cX8_ask 47 = .ok (.iload_n 2, 1) := by decide +kernel
theorem dX8_ask_48 : decode cX8_ask 48 = .ok (.invokevirtual 104, 3) := by decide +kernel
theorem dX8_ask_51 : decode cX8_ask 51 = .ok (.ifCond .eq 13, 3) := by decide +kernel
theorem dX8_ask_54 : decode cX8_ask 54 = .ok (.aload_n 3, 1) := by decide +kernel
theorem dX8_ask_55 : decode cX8_ask 55 = .ok (.getfield 297, 3) := by decide +kernel
theorem dX8_ask_58 : decode cX8_ask 58 = .ok (.invokevirtual 100, 3) := by decide +kernel
theorem dX8_ask_61 : decode cX8_ask 61 = .ok (.goto 5, 3) := by decide +kernel
theorem dX8_ask_64 : decode cX8_ask 64 = .ok (.ldc 107, 2) := by decide +kernel
theorem dX8_ask_66 : decode cX8_ask 66 = .ok (.ireturn, 1) := by decide +kernel
theorem dX8_item_0 : decode cX8_item 0 = .ok (.iload_n 1, 1) := by decide +kernel
theorem dX8_item_1 : decode cX8_item 1 = .ok (.invokestatic 291, 3) := by decide +kernel
theorem dX8_item_4 : decode cX8_item 4 = .ok (.ifCond .ne 6, 3) := by decide +kernel
theorem dX8_item_7 : decode cX8_item 7 = .ok (.ldc 58, 2) := by decide +kernel
theorem dX8_item_9 : decode cX8_item 9 = .ok (.ireturn, 1) := by decide +kernel
theorem dX8_item_10 : decode cX8_item 10 = .ok (.aload_n 0, 1) := by decide +kernel
theorem dX8_item_11 : decode cX8_item 11 = .ok (.getfield 44, 3) := by decide +kernel
theorem dX8_item_14 : decode cX8_item 14 = .ok (.iload_n 1, 1) := by decide +kernel
theorem dX8_item_15 : decode cX8_item 15 = .ok (.aaload, 1) := by decide +kernel
theorem dX8_item_16 : decode cX8_item 16 = .ok (.astore_n 3, 1) := by decide +kernel
theorem dX8_item_17 : decode cX8_item 17 = .ok (.aload_n 3, 1) := by decide +kernel
theorem dX8_item_18 : decode cX8_item 18 = .ok (.getfield 294, 3) := by decide +kernel
theorem dX8_item_21 : decode cX8_item 21 = .ok (.ifCond .ne 7, 3) := by decide +kernel
theorem dX8_item_24 : decode cX8_item 24 = .ok (.ldc_w 281, 3) := by decide +kernel
theorem dX8_item_27 : decode cX8_item 27 = .ok (.ireturn, 1) := by decide +kernel
theorem dX8_item_28 : decode cX8_item 28 = .ok (.aload_n 3, 1) := by decide +kernel
theorem dX8_item_29 : decode cX8_item 29 = .ok (.getfield 294, 3) := by decide +kernel
theorem dX8_item_32 : decode cX8_item 32 = .ok (.iconst 2, 1) := by decide +kernel
theorem dX8_item_33 : decode cX8_item 33 = .ok (.if_icmp .eq 6, 3) := by decide +kernel
theorem dX8_item_36 : decode cX8_item 36 = .ok (.ldc 107, 2) := by decide +kernel
theorem dX8_item_38 : decode cX8_item 38 = .ok (.ireturn, 1) := by decide +kernel
theorem dX8_item_39 : decode cX8_item 39 = .ok (.aload_n 3, 1) := by decide +kernel
theorem dX8_item_40 : decode cX8_item 40 = .ok (.getfield 304, 3) := by decide +kernel
theorem dX8_item_43 : decode cX8_item 43 = .ok (.iload_n 2, 1) := by decide +kernel
theorem dX8_item_44 : decode cX8_item 44 = .ok (.invokevirtual 268, 3) := by decide +kernel
theorem dX8_item_47 : decode cX8_item 47 = .ok (.ifCond .ne 7, 3) := by decide +kernel
theorem dX8_item_50 : decode cX8_item 50 = .ok (.ldc_w 271, 3) := by decide +kernel
theorem dX8_item_53 : decode cX8_item 53 = .ok (.ireturn, 1) := by decide +kernel
theorem dX8_item_54 : decode cX8_item 54 = .ok (.aload_n 3, 1) := by decide +kernel
theorem dX8_item_55 : decode cX8_item 55 = .ok (.getfield 304, 3) := by decide +kernel
theorem dX8_item_58 : decode cX8_item 58 = .ok (.getfield 210, 3) := by decide +kernel
theorem dX8_item_61 : decode cX8_item 61 = .ok (.iload_n 2, 1) := by decide +kernel
theorem dX8_item_62 : decode cX8_item 62 = .ok (.iaload, 1) := by decide +kernel
theorem dX8_item_63 : decode cX8_item 63 = .ok (.istore 4, 2) := by decide +kernel
theorem dX8_item_65 : decode cX8_item 65 = .ok (.iload 4, 2) := by decide +kernel
theorem dX8_item_67 : decode cX8_item 67 = .ok (.ldc 127, 2) := by decide +kernel
theorem dX8_item_69 : decode cX8_item 69 = .ok (.if_icmp .ne 8, 3) := by decide +kernel
theorem dX8_item_72 : decode cX8_item 72 = .ok (.ldc 107, 2) := by decide +kernel
theorem dX8_item_74 : decode cX8_item 74 = .ok (.goto 5, 3) := by decide +kernel
theorem dX8_item_77 : decode cX8_item 77 = .ok (.iload 4, 2) := by decide +kernel
theorem dX8_item_79 : decode cX8_item 79 = .ok (.ireturn, 1) := by decide +kernel
theorem dX8_rest_0 : decode cX8_rest 0 = .ok (.iload_n 1, 1) := by decide +kernel
theorem dX8_rest_1 : decode cX8_rest 1 = .ok (.invokestatic 291, 3) := by decide +kernel
theorem dX8_rest_4 : decode cX8_rest 4 = .ok (.ifCond .ne 6, 3) := by decide +kernel
theorem dX8_rest_7 : decode cX8_rest 7 = .ok (.ldc 58, 2) := by decide +kernel
theorem dX8_rest_9 : decode cX8_rest 9 = .ok (.ireturn, 1) := by decide +kernel
theorem dX8_rest_10 : decode cX8_rest 10 = .ok (.aload_n 0, 1) := by decide +kernel
theorem dX8_rest_11 : decode cX8_rest 11 = .ok (.getfield 44, 3) := by decide +kernel
theorem dX8_rest_14 : decode cX8_rest 14 = .ok (.iload_n 1, 1) := by decide +kernel
theorem dX8_rest_15 : decode cX8_rest 15 = .ok (.aaload, 1) := by decide +kernel
theorem dX8_rest_16 : decode cX8_rest 16 = .ok (.astore_n 3, 1) := by decide +kernel
theorem dX8_rest_17 : decode cX8_rest 17 = .ok (.aload_n 3, 1) := by decide +kernel
theorem dX8_rest_18 : decode cX8_rest 18 = .ok (.getfield 294, 3) := by decide +kernel
theorem dX8_rest_21 : decode cX8_rest 21 = .ok (.ifCond .ne 7, 3) := by decide +kernel
theorem dX8_rest_24 : decode cX8_rest 24 = .ok (.ldc_w 281, 3) := by decide +kernel
theorem dX8_rest_27 : decode cX8_rest 27 = .ok (.ireturn, 1) := by decide +kernel
theorem dX8_rest_28 : decode cX8_rest 28 = .ok (.aload_n 3, 1) := by decide +kernel
theorem dX8_rest_29 : decode cX8_rest 29 = .ok (.getfield 294, 3) := by decide +kernel
theorem dX8_rest_32 : decode cX8_rest 32 = .ok (.iconst 3, 1) := by decide +kernel
theorem dX8_rest_33 : decode cX8_rest 33 = .ok (.if_icmp .eq 6, 3) := by decide +kernel
theorem dX8_rest_36 : decode cX8_rest 36 = .ok (.ldc 107, 2) := by decide +kernel
theorem dX8_rest_38 : decode cX8_rest 38 = .ok (.ireturn, 1) := by decide +kernel
theorem dX8_rest_39 : decode cX8_rest 39 = .ok (.iload_n 2, 1) := by decide +kernel
theorem dX8_rest_40 : decode cX8_rest 40 = .ok (.ifCond .ne 8, 3) := by decide +kernel
theorem dX8_rest_43 : decode cX8_rest 43 = .ok (.ldc 112, 2) := by decide +kernel
theorem dX8_rest_45 : decode cX8_rest 45 = .ok (.goto 9, 3) := by decide +kernel
theorem dX8_rest_48 : decode cX8_rest 48 = .ok (.aload_n 3, 1) := by decide +kernel
theorem dX8_rest_49 : decode cX8_rest 49 = .ok (.getfield 311, 3) := by decide +kernel
theorem dX8_rest_52 : decode cX8_rest 52 = .ok (.iload_n 2, 1) := by decide +kernel
theorem dX8_rest_53 : decode cX8_rest 53 = .ok (.irem, 1) := by decide +kernel
theorem dX8_rest_54 : decode cX8_rest 54 = .ok (.ireturn, 1) := by decide +kernel
theorem dX8_tell_0 : decode cX8_tell 0 = .ok (.aload_n 0, 1) := by decide +kernel
theorem dX8_tell_1 : decode cX8_tell 1 = .ok (.getfield 314, 3) := by decide +kernel
theorem dX8_tell_4 : decode cX8_tell 4 = .ok (.bipush 60, 2) := by decide +kernel
theorem dX8_tell_6 : decode cX8_tell 6 = .ok (.if_icmp .lt 6, 3) := by decide +kernel
theorem dX8_tell_9 : decode cX8_tell 9 = .ok (.ldc 228, 2) := by decide +kernel
theorem dX8_tell_11 : decode cX8_tell 11 = .ok (.ireturn, 1) := by decide +kernel
theorem dX8_tell_12 : decode cX8_tell 12 = .ok (.aload_n 0, 1) := by decide +kernel
theorem dX8_tell_13 : decode cX8_tell 13 = .ok (.getfield 48, 3) := by decide +kernel
theorem dX8_tell_16 : decode cX8_tell 16 = .ok (.aload_n 0, 1) := by decide +kernel
theorem dX8_tell_17 : decode cX8_tell 17 = .ok (.getfield 314, 3) := by decide +kernel
theorem dX8_tell_20 : decode cX8_tell 20 = .ok (.iload_n 1, 1) := by decide +kernel
theorem dX8_tell_21 : decode cX8_tell 21 = .ok (.iastore, 1) := by decide +kernel
theorem dX8_tell_22 : decode cX8_tell 22 = .ok (.aload_n 0, 1) := by decide +kernel
theorem dX8_tell_23 : decode cX8_tell 23 = .ok (.dup, 1) := by decide +kernel
theorem dX8_tell_24 : decode cX8_tell 24 = .ok (.getfield 314, 3) := by decide +kernel
theorem dX8_tell_27 : decode cX8_tell 27 = .ok (.iconst 1, 1) := by decide +kernel
theorem dX8_tell_28 : decode cX8_tell 28 = .ok (.iadd, 1) := by decide +kernel
theorem dX8_tell_29 : decode cX8_tell 29 = .ok (.putfield 314, 3) := by decide +kernel
theorem dX8_tell_32 : decode cX8_tell 32 = .ok (.aload_n 0, 1) := by decide +kernel
theorem dX8_tell_33 : decode cX8_tell 33 = .ok (.getfield 314, 3) := by decide +kernel
theorem dX8_tell_36 : decode cX8_tell 36 = .ok (.ireturn, 1) := by decide +kernel
theorem dX8_check_0 : decode cX8_check 0 = .ok (.aload_n 0, 1) := by decide +kernel
theorem dX8_check_1 : decode cX8_check 1 = .ok (.getfield 314, 3) := by decide +kernel
theorem dX8_check_4 : decode cX8_check 4 = .ok (.istore_n 2, 1) := by decide +kernel
theorem dX8_check_5 : decode cX8_check 5 = .ok (.aload_n 0, 1) := by decide +kernel
theorem dX8_check_6 : decode cX8_check 6 = .ok (.iconst 0, 1) := by decide +kernel
theorem dX8_check_7 : decode cX8_check 7 = .ok (.putfield 314, 3) := by decide +kernel
theorem dX8_check_10 : decode cX8_check 10 = .ok (.iload_n 1, 1) := by decide +kernel
theorem dX8_check_11 : decode cX8_check 11 = .ok (.iconst 1, 1) := by decide +kernel
theorem dX8_check_12 : decode cX8_check 12 = .ok (.bipush 30, 2) := by decide +kernel
theorem dX8_check_14 : decode cX8_check 14 = .ok (.invokestatic 54, 3) := by decide +kernel
theorem dX8_check_17 : decode cX8_check 17 = .ok (.ifCond .ne 6, 3) := by decide +kernel
theorem dX8_check_20 : decode cX8_check 20 = .ok (.ldc 58, 2) := by decide +kernel
theorem dX8_check_22 : decode cX8_check 22 = .ok (.ireturn, 1) := by decide +kernel
theorem dX8_check_23 : decode cX8_check 23 = .ok (.aload_n 0, 1) := by decide +kernel
theorem dX8_check_24 : decode cX8_check 24 = .ok (.getfield 317, 3) := by decide +kernel
theorem dX8_check_27 : decode cX8_check 27 = .ok (.ifCond .eq 26, 3) := by decide +kernel
theorem dX8_check_30 : decode cX8_check 30 = .ok (.aload_n 0, 1) := by decide +kernel
theorem dX8_check_31 : decode cX8_check 31 = .ok (.iload_n 2, 1) := by decide +kernel
theorem dX8_check_32 : decode cX8_check 32 = .ok (.iload_n 1, 1) := by decide +kernel
theorem dX8_check_33 : decode cX8_check 33 = .ok (.sipush 9999, 3) := by decide +kernel
theorem dX8_check_36 : decode cX8_check 36 = .ok (.aload_n 0, 1) := by decide +kernel
theorem dX8_check_37 : decode cX8_check 37 = .ok (.getfield 16, 3) := by decide +kernel
theorem dX8_check_40 : decode cX8_check 40 = .ok (.getfield 149, 3) := by decide +kernel
theorem dX8_check_43 : decode cX8_check 43 = .ok (.isub, 1) := by decide +kernel
theorem dX8_check_44 : decode cX8_check 44 = .ok (.invokestatic 137, 3) := by decide +kernel
theorem dX8_check_47 : decode cX8_check 47 = .ok (.invokevirtual 321, 3) := by decide +kernel
theorem dX8_check_50 : decode cX8_check 50 = .ok (.goto 5, 3) := by decide +kernel
theorem dX8_check_53 : decode cX8_check 53 = .ok (.ldc 112, 2) := by decide +kernel
theorem dX8_check_55 : decode cX8_check 55 = .ok (.ireturn, 1) := by decide +kernel
theorem dX8_keep_0 : decode cX8_keep 0 = .ok (.aload_n 0, 1) := by decide +kernel
theorem dX8_keep_1 : decode cX8_keep 1 = .ok (.getfield 16, 3) := by decide +kernel
theorem dX8_keep_4 : decode cX8_keep 4 = .ok (.aload_n 0, 1) := by decide +kernel
theorem dX8_keep_5 : decode cX8_keep 5 = .ok (.getfield 10, 3) := by decide +kernel
theorem dX8_keep_8 : decode cX8_keep 8 = .ok (.invokevirtual 194, 3) := by decide +kernel
theorem dX8_keep_11 : decode cX8_keep 11 = .ok (.aload_n 0, 1) := by decide +kernel
theorem dX8_keep_12 : decode cX8_keep 12 = .ok (.iconst 1, 1) := by decide +kernel
theorem dX8_keep_13 : decode cX8_keep 13 = .ok (.putfield 317, 3) := by decide +kernel
theorem dX8_keep_16 : decode cX8_keep 16 = .ok (.aload_n 0, 1) := by decide +kernel
theorem dX8_keep_17 : decode cX8_keep 17 = .ok (.getfield 16, 3) := by decide +kernel
theorem dX8_keep_20 : decode cX8_keep 20 = .ok (.getfield 124, 3) := by decide +kernel
theorem dX8_keep_23 : decode cX8_keep 23 = .ok (.ireturn, 1) := by decide +kernel
theorem dX8_back_0 : decode cX8_back 0 = .ok (.aload_n 0, 1) := by decide +kernel
theorem dX8_back_1 : decode cX8_back 1 = .ok (.getfield 317, 3) := by decide +kernel
theorem dX8_back_4 : decode cX8_back 4 = .ok (.ifCond .ne 6, 3) := by decide +kernel
theorem dX8_back_7 : decode cX8_back 7 = .ok (.ldc 112, 2) := by decide +kernel
theorem dX8_back_9 : decode cX8_back 9 = .ok (.ireturn, 1) := by decide +kernel
theorem dX8_back_10 : decode cX8_back 10 = .ok (.aload_n 0, 1) := by decide +kernel
theorem dX8_back_11 : decode cX8_back 11 = .ok (.getfield 10, 3) := by decide +kernel
theorem dX8_back_14 : decode cX8_back 14 = .ok (.aload_n 0, 1) := by decide +kernel
theorem dX8_back_15 : decode cX8_back 15 = .ok (.getfield 16, 3) := by decide +kernel
theorem dX8_back_18 : decode cX8_back 18 = .ok (.invokevirtual 194, 3) := by decide +kernel
theorem dX8_back_21 : decode cX8_back 21 = .ok (.aload_n 0, 1) := by decide +kernel
theorem dX8_back_22 : decode cX8_back 22 = .ok (.getfield 10, 3) := by decide +kernel
theorem dX8_back_25 : decode cX8_back 25 = .ok (.getfield 124, 3) := by decide +kernel
theorem dX8_back_28 : decode cX8_back 28 = .ok (.ireturn, 1) := by decide +kernel
theorem dX8_count_0 : decode cX8_count 0 = .ok (.iload_n 1, 1) := by decide +kernel
theorem dX8_count_1 : decode cX8_count 1 = .ok (.tableswitch 185 0 12 #[67, 75, 86, 97, 108, 116, 126, 136, 146, 156, 164, 169, 177], 67) := by decide +kernel
theorem dX8_count_68 : decode cX8_count 68 = .ok (.aload_n 0, 1) := by decide +kernel
theorem dX8_count_69 : decode cX8_count 69 = .ok (.getfield 10, 3) := by decide +kernel
theorem dX8_count_72 : decode cX8_count 72 = .ok (.getfield 124, 3) := by decide +kernel
theorem dX8_count_75 : decode cX8_count 75 = .ok (.ireturn, 1) := by decide +kernel
theorem dX8_count_76 : decode cX8_count 76 = .ok (.aload_n 0, 1) := by decide +kernel
theorem dX8_count_77 : decode cX8_count 77 = .ok (.getfield 10, 3) := by decide +kernel
theorem dX8_count_80 : decode cX8_count 80 = .ok (.getfield 167, 3) := by decide +kernel
theorem dX8_count_83 : decode cX8_count 83 = .ok (.getfield 277, 3) := by decide +kernel
theorem dX8_count_86 : decode cX8_count 86 = .ok (.ireturn, 1) := by decide +kernel
theorem dX8_count_87 : decode cX8_count 87 = .ok (.aload_n 0, 1) := by decide +kernel
theorem dX8_count_88 : decode cX8_count 88 = .ok (.getfield 10, 3) := by decide +kernel
theorem dX8_count_91 : decode cX8_count 91 = .ok (.getfield 167, 3) := by decide +kernel
theorem dX8_count_94 : decode cX8_count 94 = .ok (.getfield 324, 3) := by decide +kernel
theorem dX8_count_97 : decode cX8_count 97 = .ok (.ireturn, 1) := by decide +kernel
theorem dX8_count_98 : decode cX8_count 98 = .ok (.aload_n 0, 1) := by decide +kernel
theorem dX8_count_99 : decode cX8_count 99 = .ok (.getfield 10, 3) := by decide +kernel
theorem dX8_count_102 : decode cX8_count 102 = .ok (.getfield 167, 3) := by decide +kernel
theorem dX8_count_105 : decode cX8_count 105 = .ok (.getfield 327, 3) := by decide +kernel
theorem dX8_count_108 : decode cX8_count 108 = .ok (.ireturn, 1) := by decide +kernel
theorem dX8_count_109 : decode cX8_count 109 = .ok (.aload_n 0, 1) := by decide +kernel
theorem dX8_count_110 : decode cX8_count 110 = .ok (.getfield 10, 3) := by decide +kernel
theorem dX8_count_113 : decode cX8_count 113 = .ok (.getfield 149, 3) := by decide +kernel
theorem dX8_count_116 : decode cX8_count 116 = .ok (.ireturn, 1) := by decide +kernel
theorem dX8_count_117 : decode cX8_count 117 = .ok (.aload_n 0, 1) := by decide +kernel
theorem dX8_count_118 : decode cX8_count 118 = .ok (.getfield 10, 3) := by decide +kernel
theorem dX8_count_121 : decode cX8_count 121 = .ok (.getfield 134, 3) := by decide +kernel
theorem dX8_count_124 : decode cX8_count 124 = .ok (.iconst 0, 1) := by decide +kernel
theorem dX8_count_125 : decode cX8_count 125 = .ok (.iaload, 1) := by decide +kernel
theorem dX8_count_126 : decode cX8_count 126 = .ok (.ireturn, 1) := by decide +kernel
theorem dX8_count_127 : decode cX8_count 127 = .ok (.aload_n 0, 1) := by decide +kernel
theorem dX8_count_128 : decode cX8_count 128 = .ok (.getfield 10, 3) := by decide +kernel
theorem dX8_count_131 : decode cX8_count 131 = .ok (.getfield 134, 3) := by decide +kernel
theorem dX8_count_134 : decode cX8_count 134 = .ok (.iconst 1, 1) := by decide +kernel
theorem dX8_count_135 : decode cX8_count 135 = .ok (.iaload, 1) := by decide +kernel
theorem dX8_count_136 : decode cX8_count 136 = .ok (.ireturn, 1) := by decide +kernel
theorem dX8_count_137 : decode cX8_count 137 = .ok (.aload_n 0, 1) := by decide +kernel
theorem dX8_count_138 : decode cX8_count 138 = .ok (.getfield 10, 3) := by decide +kernel
theorem dX8_count_141 : decode cX8_count 141 = .ok (.getfield 134, 3) := by decide +kernel
theorem dX8_count_144 : decode cX8_count 144 = .ok (.iconst 2, 1) := by decide +kernel
theorem dX8_count_145 : decode cX8_count 145 = .ok (.iaload, 1) := by decide +kernel
theorem dX8_count_146 : decode cX8_count 146 = .ok (.ireturn, 1) := by decide +kernel
theorem dX8_count_147 : decode cX8_count 147 = .ok (.aload_n 0, 1) := by decide +kernel
theorem dX8_count_148 : decode cX8_count 148 = .ok (.getfield 10, 3) := by decide +kernel
theorem dX8_count_151 : decode cX8_count 151 = .ok (.getfield 134, 3) := by decide +kernel
theorem dX8_count_154 : decode cX8_count 154 = .ok (.iconst 3, 1) := by decide +kernel
theorem dX8_count_155 : decode cX8_count 155 = .ok (.iaload, 1) := by decide +kernel
theorem dX8_count_156 : decode cX8_count 156 = .ok (.ireturn, 1) := by decide +kernel
theorem dX8_count_157 : decode cX8_count 157 = .ok (.aload_n 0, 1) := by decide +kernel
theorem dX8_count_158 : decode cX8_count 158 = .ok (.getfield 10, 3) := by decide +kernel
theorem dX8_count_161 : decode cX8_count 161 = .ok (.getfield 244, 3) := by decide +kernel
theorem dX8_count_164 : decode cX8_count 164 = .ok (.ireturn, 1) := by decide +kernel
theorem dX8_count_165 : decode cX8_count 165 = .ok (.aload_n 0, 1) := by decide +kernel
theorem dX8_count_166 : decode cX8_count 166 = .ok (.getfield 314, 3) := by decide +kernel
theorem dX8_count_169 : decode cX8_count 169 = .ok (.ireturn, 1) := by decide +kernel
theorem dX8_count_170 : decode cX8_count 170 = .ok (.aload_n 0, 1) := by decide +kernel
theorem dX8_count_171 : decode cX8_count 171 = .ok (.getfield 32, 3) := by decide +kernel
theorem dX8_count_174 : decode cX8_count 174 = .ok (.getfield 225, 3) := by decide +kernel
theorem dX8_count_177 : decode cX8_count 177 = .ok (.ireturn, 1) := by decide +kernel
theorem dX8_count_178 : decode cX8_count 178 = .ok (.aload_n 0, 1) := by decide +kernel
theorem dX8_count_179 : decode cX8_count 179 = .ok (.getfield 10, 3) := by decide +kernel
theorem dX8_count_182 : decode cX8_count 182 = .ok (.getfield 146, 3) := by decide +kernel
theorem dX8_count_185 : decode cX8_count 185 = .ok (.ireturn, 1) := by decide +kernel
theorem dX8_count_186 : decode cX8_count 186 = .ok (.ldc 58, 2) := by decide +kernel
theorem dX8_count_188 : decode cX8_count 188 = .ok (.ireturn, 1) := by decide +kernel
theorem dX8_compare_0 : decode cX8_compare 0 = .ok (.aload_n 0, 1) := by decide +kernel
theorem dX8_compare_1 : decode cX8_compare 1 = .ok (.getfield 19, 3) := by decide +kernel
theorem dX8_compare_4 : decode cX8_compare 4 = .ok (.aload_n 0, 1) := by decide +kernel
theorem dX8_compare_5 : decode cX8_compare 5 = .ok (.getfield 16, 3) := by decide +kernel
theorem dX8_compare_8 : decode cX8_compare 8 = .ok (.invokevirtual 194, 3) := by decide +kernel
theorem dX8_compare_11 : decode cX8_compare 11 = .ok (.iconst 0, 1) := by decide +kernel
theorem dX8_compare_12 : decode cX8_compare 12 = .ok (.istore_n 3, 1) := by decide +kernel
theorem dX8_compare_13 : decode cX8_compare 13 = .ok (.iconst 0, 1) := by decide +kernel
theorem dX8_compare_14 : decode cX8_compare 14 = .ok (.istore 4, 2) := by decide +kernel
theorem dX8_compare_16 : decode cX8_compare 16 = .ok (.iload 4, 2) := by decide +kernel
theorem dX8_compare_18 : decode cX8_compare 18 = .ok (.iload_n 2, 1) := by decide +kernel
theorem dX8_compare_19 : decode cX8_compare 19 = .ok (.if_icmp .ge 73, 3) := by decide +kernel
theorem dX8_compare_22 : decode cX8_compare 22 = .ok (.aload_n 0, 1) := by decide +kernel
theorem dX8_compare_23 : decode cX8_compare 23 = .ok (.getfield 19, 3) := by decide +kernel
theorem dX8_compare_26 : decode cX8_compare 26 = .ok (.invokevirtual 201, 3) := by decide +kernel
theorem dX8_compare_29 : decode cX8_compare 29 = .ok (.pop, 1) := by decide +kernel
theorem dX8_compare_30 : decode cX8_compare 30 = .ok (.iload_n 3, 1) := by decide +kernel
theorem dX8_compare_31 : decode cX8_compare 31 = .ok (.iload_n 1, 1) := by decide +kernel
theorem dX8_compare_32 : decode cX8_compare 32 = .ok (.if_icmp .ge 19, 3) := by decide +kernel
theorem dX8_compare_35 : decode cX8_compare 35 = .ok (.aload_n 0, 1) := by decide +kernel
theorem dX8_compare_36 : decode cX8_compare 36 = .ok (.getfield 48, 3) := by decide +kernel
theorem dX8_compare_39 : decode cX8_compare 39 = .ok (.iload_n 3, 1) := by decide +kernel
theorem dX8_compare_40 : decode cX8_compare 40 = .ok (.iaload, 1) := by decide +kernel
theorem dX8_compare_41 : decode cX8_compare 41 = .ok (.aload_n 0, 1) := by decide +kernel
theorem dX8_compare_42 : decode cX8_compare 42 = .ok (.getfield 19, 3) := by decide +kernel
theorem dX8_compare_45 : decode cX8_compare 45 = .ok (.invokevirtual 155, 3) := by decide +kernel
theorem dX8_compare_48 : decode cX8_compare 48 = .ok (.if_icmp .eq 7, 3) := by decide +kernel
theorem dX8_compare_51 : decode cX8_compare 51 = .ok (.iconst 1, 1) := by decide +kernel
theorem dX8_compare_52 : decode cX8_compare 52 = .ok (.iload_n 3, 1) := by decide +kernel
theorem dX8_compare_53 : decode cX8_compare 53 = .ok (.iadd, 1) := by decide +kernel
theorem dX8_compare_54 : decode cX8_compare 54 = .ok (.ireturn, 1) := by decide +kernel
theorem dX8_compare_55 : decode cX8_compare 55 = .ok (.iinc 3 1, 3) := by decide +kernel
theorem dX8_compare_58 : decode cX8_compare 58 = .ok (.iload_n 3, 1) := by decide +kernel
theorem dX8_compare_59 : decode cX8_compare 59 = .ok (.iload_n 1, 1) := by decide +kernel
theorem dX8_compare_60 : decode cX8_compare 60 = .ok (.if_icmp .ge 19, 3) := by decide +kernel
theorem dX8_compare_63 : decode cX8_compare 63 = .ok (.aload_n 0, 1) := by decide +kernel
theorem dX8_compare_64 : decode cX8_compare 64 = .ok (.getfield 48, 3) := by decide +kernel
theorem dX8_compare_67 : decode cX8_compare 67 = .ok (.iload_n 3, 1) := by decide +kernel
theorem dX8_compare_68 : decode cX8_compare 68 = .ok (.iaload, 1) := by decide +kernel
theorem dX8_compare_69 : decode cX8_compare 69 = .ok (.aload_n 0, 1) := by decide +kernel
theorem dX8_compare_70 : decode cX8_compare 70 = .ok (.getfield 19, 3) := by decide +kernel
theorem dX8_compare_73 : decode cX8_compare 73 = .ok (.getfield 158, 3) := by decide +kernel
theorem dX8_compare_76 : decode cX8_compare 76 = .ok (.if_icmp .eq 7, 3) := by decide +kernel
theorem dX8_compare_79 : decode cX8_compare 79 = .ok (.iconst 1, 1) := by decide +kernel
theorem dX8_compare_80 : decode cX8_compare 80 = .ok (.iload_n 3, 1) := by decide +kernel
theorem dX8_compare_81 : decode cX8_compare 81 = .ok (.iadd, 1) := by decide +kernel
theorem dX8_compare_82 : decode cX8_compare 82 = .ok (.ireturn, 1) := by decide +kernel
theorem dX8_compare_83 : decode cX8_compare 83 = .ok (.iinc 3 1, 3) := by decide +kernel
theorem dX8_compare_86 : decode cX8_compare 86 = .ok (.iinc 4 1, 3) := by decide +kernel
theorem dX8_compare_89 : decode cX8_compare 89 = .ok (.goto (-73), 3) := by decide +kernel
theorem dX8_compare_92 : decode cX8_compare 92 = .ok (.iload_n 3, 1) := by decide +kernel
theorem dX8_compare_93 : decode cX8_compare 93 = .ok (.iload_n 1, 1) := by decide +kernel
theorem dX8_compare_94 : decode cX8_compare 94 = .ok (.if_icmp .ge 9, 3) := by decide +kernel
theorem dX8_compare_97 : decode cX8_compare 97 = .ok (.iconst 1, 1) := by decide +kernel
theorem dX8_compare_98 : decode cX8_compare 98 = .ok (.iload_n 3, 1) := by decide +kernel
theorem dX8_compare_99 : decode cX8_compare 99 = .ok (.iadd, 1) := by decide +kernel
theorem dX8_compare_100 : decode cX8_compare 100 = .ok (.goto 4, 3) := by decide +kernel
theorem dX8_compare_103 : decode cX8_compare 103 = .ok (.iconst 0, 1) := by decide +kernel
theorem dX8_compare_104 : decode cX8_compare 104 = .ok (.ireturn, 1) := by decide +kernel
theorem dX8_refusalOf_0 : decode cX8_refusalOf 0 = .ok (.iload_n 1, 1) := by decide +kernel
theorem dX8_refusalOf_1 : decode cX8_refusalOf 1 = .ok (.invokestatic 260, 3) := by decide +kernel
theorem dX8_refusalOf_4 : decode cX8_refusalOf 4 = .ok (.ifCond .ne 6, 3) := by decide +kernel
theorem dX8_refusalOf_7 : decode cX8_refusalOf 7 = .ok (.ldc 58, 2) := by decide +kernel
theorem dX8_refusalOf_9 : decode cX8_refusalOf 9 = .ok (.ireturn, 1) := by decide +kernel
theorem dX8_refusalOf_10 : decode cX8_refusalOf 10 = .ok (.aload_n 0, 1) := by decide +kernel
theorem dX8_refusalOf_11 : decode cX8_refusalOf 11 = .ok (.getfield 38, 3) := by decide +kernel
theorem dX8_refusalOf_14 : decode cX8_refusalOf 14 = .ok (.iload_n 1, 1) := by decide +kernel
theorem dX8_refusalOf_15 : decode cX8_refusalOf 15 = .ok (.aaload, 1) := by decide +kernel
theorem dX8_refusalOf_16 : decode cX8_refusalOf 16 = .ok (.getfield 272, 3) := by decide +kernel
theorem dX8_refusalOf_19 : decode cX8_refusalOf 19 = .ok (.iconst (-1), 1) := by decide +kernel
theorem dX8_refusalOf_20 : decode cX8_refusalOf 20 = .ok (.if_icmp .ne 9, 3) := by decide +kernel
theorem dX8_refusalOf_23 : decode cX8_refusalOf 23 = .ok (.ldc_w 281, 3) := by decide +kernel
theorem dX8_refusalOf_26 : decode cX8_refusalOf 26 = .ok (.goto 4, 3) := by decide +kernel
theorem dX8_refusalOf_29 : decode cX8_refusalOf 29 = .ok (.iconst 0, 1) := by decide +kernel
theorem dX8_refusalOf_30 : decode cX8_refusalOf 30 = .ok (.ireturn, 1) := by decide +kernel
theorem dX8_isSitter_0 : decode cX8_isSitter 0 = .ok (.iload_n 1, 1) := by decide +kernel
theorem dX8_isSitter_1 : decode cX8_isSitter 1 = .ok (.iconst 0, 1) := by decide +kernel
theorem dX8_isSitter_2 : decode cX8_isSitter 2 = .ok (.aload_n 0, 1) := by decide +kernel
theorem dX8_isSitter_3 : decode cX8_isSitter 3 = .ok (.getfield 10, 3) := by decide +kernel
theorem dX8_isSitter_6 : decode cX8_isSitter 6 = .ok (.getfield 124, 3) := by decide +kernel
theorem dX8_isSitter_9 : decode cX8_isSitter 9 = .ok (.iconst 1, 1) := by decide +kernel
theorem dX8_isSitter_10 : decode cX8_isSitter 10 = .ok (.isub, 1) := by decide +kernel
theorem dX8_isSitter_11 : decode cX8_isSitter 11 = .ok (.invokestatic 54, 3) := by decide +kernel
theorem dX8_isSitter_14 : decode cX8_isSitter 14 = .ok (.ireturn, 1) := by decide +kernel
theorem dX8_isPlace_0 : decode cX8_isPlace 0 = .ok (.iload_n 1, 1) := by decide +kernel
theorem dX8_isPlace_1 : decode cX8_isPlace 1 = .ok (.iconst 0, 1) := by decide +kernel
theorem dX8_isPlace_2 : decode cX8_isPlace 2 = .ok (.aload_n 0, 1) := by decide +kernel
theorem dX8_isPlace_3 : decode cX8_isPlace 3 = .ok (.getfield 10, 3) := by decide +kernel
theorem dX8_isPlace_6 : decode cX8_isPlace 6 = .ok (.getfield 167, 3) := by decide +kernel
theorem dX8_isPlace_9 : decode cX8_isPlace 9 = .ok (.getfield 277, 3) := by decide +kernel
theorem dX8_isPlace_12 : decode cX8_isPlace 12 = .ok (.iconst 1, 1) := by decide +kernel
theorem dX8_isPlace_13 : decode cX8_isPlace 13 = .ok (.isub, 1) := by decide +kernel
theorem dX8_isPlace_14 : decode cX8_isPlace 14 = .ok (.invokestatic 54, 3) := by decide +kernel
theorem dX8_isPlace_17 : decode cX8_isPlace 17 = .ok (.ireturn, 1) := by decide +kernel
theorem dX8_isKind_0 : decode cX8_isKind 0 = .ok (.iload_n 0, 1) := by decide +kernel
theorem dX8_isKind_1 : decode cX8_isKind 1 = .ok (.iconst 0, 1) := by decide +kernel
theorem dX8_isKind_2 : decode cX8_isKind 2 = .ok (.iconst 5, 1) := by decide +kernel
theorem dX8_isKind_3 : decode cX8_isKind 3 = .ok (.invokestatic 54, 3) := by decide +kernel
theorem dX8_isKind_6 : decode cX8_isKind 6 = .ok (.ireturn, 1) := by decide +kernel
theorem dX8_isSheet_0 : decode cX8_isSheet 0 = .ok (.iload_n 0, 1) := by decide +kernel
theorem dX8_isSheet_1 : decode cX8_isSheet 1 = .ok (.iconst 0, 1) := by decide +kernel
theorem dX8_isSheet_2 : decode cX8_isSheet 2 = .ok (.iconst 3, 1) := by decide +kernel
theorem dX8_isSheet_3 : decode cX8_isSheet 3 = .ok (.invokestatic 54, 3) := by decide +kernel
theorem dX8_isSheet_6 : decode cX8_isSheet 6 = .ok (.ireturn, 1) := by decide +kernel
theorem dX8_isSlot_0 : decode cX8_isSlot 0 = .ok (.iload_n 0, 1) := by decide +kernel
theorem dX8_isSlot_1 : decode cX8_isSlot 1 = .ok (.iconst 0, 1) := by decide +kernel
theorem dX8_isSlot_2 : decode cX8_isSlot 2 = .ok (.iconst 4, 1) := by decide +kernel
theorem dX8_isSlot_3 : decode cX8_isSlot 3 = .ok (.invokestatic 54, 3) := by decide +kernel
theorem dX8_isSlot_6 : decode cX8_isSlot 6 = .ok (.ireturn, 1) := by decide +kernel
theorem dX8_isWithin_0 : decode cX8_isWithin 0 = .ok (.iload_n 1, 1) := by decide +kernel
theorem dX8_isWithin_1 : decode cX8_isWithin 1 = .ok (.iload_n 0, 1) := by decide +kernel
theorem dX8_isWithin_2 : decode cX8_isWithin 2 = .ok (.if_icmp .gt 12, 3) := by decide +kernel
theorem dX8_isWithin_5 : decode cX8_isWithin 5 = .ok (.iload_n 0, 1) := by decide +kernel
theorem dX8_isWithin_6 : decode cX8_isWithin 6 = .ok (.iload_n 2, 1) := by decide +kernel
theorem dX8_isWithin_7 : decode cX8_isWithin 7 = .ok (.if_icmp .gt 7, 3) := by decide +kernel
theorem dX8_isWithin_10 : decode cX8_isWithin 10 = .ok (.iconst 1, 1) := by decide +kernel
theorem dX8_isWithin_11 : decode cX8_isWithin 11 = .ok (.goto 4, 3) := by decide +kernel
theorem dX8_isWithin_14 : decode cX8_isWithin 14 = .ok (.iconst 0, 1) := by decide +kernel
theorem dX8_isWithin_15 : decode cX8_isWithin 15 = .ok (.ireturn, 1) := by decide +kernel
theorem dX8_held_0 : decode cX8_held 0 = .ok (.iload_n 0, 1) := by decide +kernel
theorem dX8_held_1 : decode cX8_held 1 = .ok (.iload_n 1, 1) := by decide +kernel
theorem dX8_held_2 : decode cX8_held 2 = .ok (.if_icmp .ge 7, 3) := by decide +kernel
theorem dX8_held_5 : decode cX8_held 5 = .ok (.iload_n 1, 1) := by decide +kernel
theorem dX8_held_6 : decode cX8_held 6 = .ok (.goto 13, 3) := by decide +kernel
theorem dX8_held_9 : decode cX8_held 9 = .ok (.iload_n 0, 1) := by decide +kernel
theorem dX8_held_10 : decode cX8_held 10 = .ok (.iload_n 2, 1) := by decide +kernel
theorem dX8_held_11 : decode cX8_held 11 = .ok (.if_icmp .le 7, 3) := by decide +kernel
theorem dX8_held_14 : decode cX8_held 14 = .ok (.iload_n 2, 1) := by decide +kernel
theorem dX8_held_15 : decode cX8_held 15 = .ok (.goto 4, 3) := by decide +kernel
theorem dX8_held_18 : decode cX8_held 18 = .ok (.iload_n 0, 1) := by decide +kernel
theorem dX8_held_19 : decode cX8_held 19 = .ok (.ireturn, 1) := by decide +kernel
theorem dX8_has_0 : decode cX8_has 0 = .ok (.iload_n 0, 1) := by decide +kernel
theorem dX8_has_1 : decode cX8_has 1 = .ok (.iload_n 1, 1) := by decide +kernel
theorem dX8_has_2 : decode cX8_has 2 = .ok (.ishr, 1) := by decide +kernel
theorem dX8_has_3 : decode cX8_has 3 = .ok (.iconst 1, 1) := by decide +kernel
theorem dX8_has_4 : decode cX8_has 4 = .ok (.iand, 1) := by decide +kernel
theorem dX8_has_5 : decode cX8_has 5 = .ok (.iconst 1, 1) := by decide +kernel
theorem dX8_has_6 : decode cX8_has 6 = .ok (.if_icmp .ne 7, 3) := by decide +kernel
theorem dX8_has_9 : decode cX8_has 9 = .ok (.iconst 1, 1) := by decide +kernel
theorem dX8_has_10 : decode cX8_has 10 = .ok (.goto 4, 3) := by decide +kernel
theorem dX8_has_13 : decode cX8_has 13 = .ok (.iconst 0, 1) := by decide +kernel
theorem dX8_has_14 : decode cX8_has 14 = .ok (.ireturn, 1) := by decide +kernel
theorem dJ6_numberOfTrailingZeros_0f7a4_0 : decode cJ6_numberOfTrailingZeros_0f7a4 0 = .ok (.iload_n 0, 1) := by decide +kernel
theorem dJ6_numberOfTrailingZeros_0f7a4_1 : decode cJ6_numberOfTrailingZeros_0f7a4 1 = .ok (.iconst (-1), 1) := by decide +kernel
theorem dJ6_numberOfTrailingZeros_0f7a4_2 : decode cJ6_numberOfTrailingZeros_0f7a4 2 = .ok (.ixor, 1) := by decide +kernel
theorem dJ6_numberOfTrailingZeros_0f7a4_3 : decode cJ6_numberOfTrailingZeros_0f7a4 3 = .ok (.iload_n 0, 1) := by decide +kernel
theorem dJ6_numberOfTrailingZeros_0f7a4_4 : decode cJ6_numberOfTrailingZeros_0f7a4 4 = .ok (.iconst 1, 1) := by decide +kernel
theorem dJ6_numberOfTrailingZeros_0f7a4_5 : decode cJ6_numberOfTrailingZeros_0f7a4 5 = .ok (.isub, 1) := by decide +kernel
theorem dJ6_numberOfTrailingZeros_0f7a4_6 : decode cJ6_numberOfTrailingZeros_0f7a4 6 = .ok (.iand, 1) := by decide +kernel
theorem dJ6_numberOfTrailingZeros_0f7a4_7 : decode cJ6_numberOfTrailingZeros_0f7a4 7 = .ok (.istore_n 0, 1) := by decide +kernel
theorem dJ6_numberOfTrailingZeros_0f7a4_8 : decode cJ6_numberOfTrailingZeros_0f7a4 8 = .ok (.iload_n 0, 1) := by decide +kernel
theorem dJ6_numberOfTrailingZeros_0f7a4_9 : decode cJ6_numberOfTrailingZeros_0f7a4 9 = .ok (.ifCond .gt 8, 3) := by decide +kernel
theorem dJ6_numberOfTrailingZeros_0f7a4_12 : decode cJ6_numberOfTrailingZeros_0f7a4 12 = .ok (.iload_n 0, 1) := by decide +kernel
theorem dJ6_numberOfTrailingZeros_0f7a4_13 : decode cJ6_numberOfTrailingZeros_0f7a4 13 = .ok (.bipush 32, 2) := by decide +kernel
theorem dJ6_numberOfTrailingZeros_0f7a4_15 : decode cJ6_numberOfTrailingZeros_0f7a4 15 = .ok (.iand, 1) := by decide +kernel
theorem dJ6_numberOfTrailingZeros_0f7a4_16 : decode cJ6_numberOfTrailingZeros_0f7a4 16 = .ok (.ireturn, 1) := by decide +kernel
theorem dJ6_numberOfTrailingZeros_0f7a4_17 : decode cJ6_numberOfTrailingZeros_0f7a4 17 = .ok (.iconst 1, 1) := by decide +kernel
theorem dJ6_numberOfTrailingZeros_0f7a4_18 : decode cJ6_numberOfTrailingZeros_0f7a4 18 = .ok (.istore_n 1, 1) := by decide +kernel
theorem dJ6_numberOfTrailingZeros_0f7a4_19 : decode cJ6_numberOfTrailingZeros_0f7a4 19 = .ok (.iload_n 0, 1) := by decide +kernel
theorem dJ6_numberOfTrailingZeros_0f7a4_20 : decode cJ6_numberOfTrailingZeros_0f7a4 20 = .ok (.ldc_w 264, 3) := by decide +kernel
theorem dJ6_numberOfTrailingZeros_0f7a4_23 : decode cJ6_numberOfTrailingZeros_0f7a4 23 = .ok (.if_icmp .le 11, 3) := by decide +kernel
theorem dJ6_numberOfTrailingZeros_0f7a4_26 : decode cJ6_numberOfTrailingZeros_0f7a4 26 = .ok (.iinc 1 16, 3) := by decide +kernel
theorem dJ6_numberOfTrailingZeros_0f7a4_29 : decode cJ6_numberOfTrailingZeros_0f7a4 29 = .ok (.iload_n 0, 1) := by decide +kernel
theorem dJ6_numberOfTrailingZeros_0f7a4_30 : decode cJ6_numberOfTrailingZeros_0f7a4 30 = .ok (.bipush 16, 2) := by decide +kernel
theorem dJ6_numberOfTrailingZeros_0f7a4_32 : decode cJ6_numberOfTrailingZeros_0f7a4 32 = .ok (.iushr, 1) := by decide +kernel
theorem dJ6_numberOfTrailingZeros_0f7a4_33 : decode cJ6_numberOfTrailingZeros_0f7a4 33 = .ok (.istore_n 0, 1) := by decide +kernel
theorem dJ6_numberOfTrailingZeros_0f7a4_34 : decode cJ6_numberOfTrailingZeros_0f7a4 34 = .ok (.iload_n 0, 1) := by decide +kernel
theorem dJ6_numberOfTrailingZeros_0f7a4_35 : decode cJ6_numberOfTrailingZeros_0f7a4 35 = .ok (.sipush 256, 3) := by decide +kernel
theorem dJ6_numberOfTrailingZeros_0f7a4_38 : decode cJ6_numberOfTrailingZeros_0f7a4 38 = .ok (.if_icmp .le 11, 3) := by decide +kernel
theorem dJ6_numberOfTrailingZeros_0f7a4_41 : decode cJ6_numberOfTrailingZeros_0f7a4 41 = .ok (.iinc 1 8, 3) := by decide +kernel
theorem dJ6_numberOfTrailingZeros_0f7a4_44 : decode cJ6_numberOfTrailingZeros_0f7a4 44 = .ok (.iload_n 0, 1) := by decide +kernel
theorem dJ6_numberOfTrailingZeros_0f7a4_45 : decode cJ6_numberOfTrailingZeros_0f7a4 45 = .ok (.bipush 8, 2) := by decide +kernel
theorem dJ6_numberOfTrailingZeros_0f7a4_47 : decode cJ6_numberOfTrailingZeros_0f7a4 47 = .ok (.iushr, 1) := by decide +kernel
theorem dJ6_numberOfTrailingZeros_0f7a4_48 : decode cJ6_numberOfTrailingZeros_0f7a4 48 = .ok (.istore_n 0, 1) := by decide +kernel
theorem dJ6_numberOfTrailingZeros_0f7a4_49 : decode cJ6_numberOfTrailingZeros_0f7a4 49 = .ok (.iload_n 0, 1) := by decide +kernel
theorem dJ6_numberOfTrailingZeros_0f7a4_50 : decode cJ6_numberOfTrailingZeros_0f7a4 50 = .ok (.bipush 16, 2) := by decide +kernel
theorem dJ6_numberOfTrailingZeros_0f7a4_52 : decode cJ6_numberOfTrailingZeros_0f7a4 52 = .ok (.if_icmp .le 10, 3) := by decide +kernel
theorem dJ6_numberOfTrailingZeros_0f7a4_55 : decode cJ6_numberOfTrailingZeros_0f7a4 55 = .ok (.iinc 1 4, 3) := by decide +kernel
theorem dJ6_numberOfTrailingZeros_0f7a4_58 : decode cJ6_numberOfTrailingZeros_0f7a4 58 = .ok (.iload_n 0, 1) := by decide +kernel
theorem dJ6_numberOfTrailingZeros_0f7a4_59 : decode cJ6_numberOfTrailingZeros_0f7a4 59 = .ok (.iconst 4, 1) := by decide +kernel
theorem dJ6_numberOfTrailingZeros_0f7a4_60 : decode cJ6_numberOfTrailingZeros_0f7a4 60 = .ok (.iushr, 1) := by decide +kernel
theorem dJ6_numberOfTrailingZeros_0f7a4_61 : decode cJ6_numberOfTrailingZeros_0f7a4 61 = .ok (.istore_n 0, 1) := by decide +kernel
theorem dJ6_numberOfTrailingZeros_0f7a4_62 : decode cJ6_numberOfTrailingZeros_0f7a4 62 = .ok (.iload_n 0, 1) := by decide +kernel
theorem dJ6_numberOfTrailingZeros_0f7a4_63 : decode cJ6_numberOfTrailingZeros_0f7a4 63 = .ok (.iconst 4, 1) := by decide +kernel
theorem dJ6_numberOfTrailingZeros_0f7a4_64 : decode cJ6_numberOfTrailingZeros_0f7a4 64 = .ok (.if_icmp .le 10, 3) := by decide +kernel
theorem dJ6_numberOfTrailingZeros_0f7a4_67 : decode cJ6_numberOfTrailingZeros_0f7a4 67 = .ok (.iinc 1 2, 3) := by decide +kernel
theorem dJ6_numberOfTrailingZeros_0f7a4_70 : decode cJ6_numberOfTrailingZeros_0f7a4 70 = .ok (.iload_n 0, 1) := by decide +kernel
theorem dJ6_numberOfTrailingZeros_0f7a4_71 : decode cJ6_numberOfTrailingZeros_0f7a4 71 = .ok (.iconst 2, 1) := by decide +kernel
theorem dJ6_numberOfTrailingZeros_0f7a4_72 : decode cJ6_numberOfTrailingZeros_0f7a4 72 = .ok (.iushr, 1) := by decide +kernel
theorem dJ6_numberOfTrailingZeros_0f7a4_73 : decode cJ6_numberOfTrailingZeros_0f7a4 73 = .ok (.istore_n 0, 1) := by decide +kernel
theorem dJ6_numberOfTrailingZeros_0f7a4_74 : decode cJ6_numberOfTrailingZeros_0f7a4 74 = .ok (.iload_n 1, 1) := by decide +kernel
theorem dJ6_numberOfTrailingZeros_0f7a4_75 : decode cJ6_numberOfTrailingZeros_0f7a4 75 = .ok (.iload_n 0, 1) := by decide +kernel
theorem dJ6_numberOfTrailingZeros_0f7a4_76 : decode cJ6_numberOfTrailingZeros_0f7a4 76 = .ok (.iconst 1, 1) := by decide +kernel
theorem dJ6_numberOfTrailingZeros_0f7a4_77 : decode cJ6_numberOfTrailingZeros_0f7a4 77 = .ok (.iushr, 1) := by decide +kernel
theorem dJ6_numberOfTrailingZeros_0f7a4_78 : decode cJ6_numberOfTrailingZeros_0f7a4 78 = .ok (.iadd, 1) := by decide +kernel
theorem dJ6_numberOfTrailingZeros_0f7a4_79 : decode cJ6_numberOfTrailingZeros_0f7a4 79 = .ok (.ireturn, 1) := by decide +kernel
theorem dJ6_bitCount_0f7a4_0 : decode cJ6_bitCount_0f7a4 0 = .ok (.iload_n 0, 1) := by decide +kernel
theorem dJ6_bitCount_0f7a4_1 : decode cJ6_bitCount_0f7a4 1 = .ok (.iload_n 0, 1) := by decide +kernel
theorem dJ6_bitCount_0f7a4_2 : decode cJ6_bitCount_0f7a4 2 = .ok (.iconst 1, 1) := by decide +kernel
theorem dJ6_bitCount_0f7a4_3 : decode cJ6_bitCount_0f7a4 3 = .ok (.iushr, 1) := by decide +kernel
theorem dJ6_bitCount_0f7a4_4 : decode cJ6_bitCount_0f7a4 4 = .ok (.ldc_w 265, 3) := by decide +kernel
theorem dJ6_bitCount_0f7a4_7 : decode cJ6_bitCount_0f7a4 7 = .ok (.iand, 1) := by decide +kernel
theorem dJ6_bitCount_0f7a4_8 : decode cJ6_bitCount_0f7a4 8 = .ok (.isub, 1) := by decide +kernel
theorem dJ6_bitCount_0f7a4_9 : decode cJ6_bitCount_0f7a4 9 = .ok (.istore_n 0, 1) := by decide +kernel
theorem dJ6_bitCount_0f7a4_10 : decode cJ6_bitCount_0f7a4 10 = .ok (.iload_n 0, 1) := by decide +kernel
theorem dJ6_bitCount_0f7a4_11 : decode cJ6_bitCount_0f7a4 11 = .ok (.ldc_w 266, 3) := by decide +kernel
theorem dJ6_bitCount_0f7a4_14 : decode cJ6_bitCount_0f7a4 14 = .ok (.iand, 1) := by decide +kernel
theorem dJ6_bitCount_0f7a4_15 : decode cJ6_bitCount_0f7a4 15 = .ok (.iload_n 0, 1) := by decide +kernel
theorem dJ6_bitCount_0f7a4_16 : decode cJ6_bitCount_0f7a4 16 = .ok (.iconst 2, 1) := by decide +kernel
theorem dJ6_bitCount_0f7a4_17 : decode cJ6_bitCount_0f7a4 17 = .ok (.iushr, 1) := by decide +kernel
theorem dJ6_bitCount_0f7a4_18 : decode cJ6_bitCount_0f7a4 18 = .ok (.ldc_w 266, 3) := by decide +kernel
theorem dJ6_bitCount_0f7a4_21 : decode cJ6_bitCount_0f7a4 21 = .ok (.iand, 1) := by decide +kernel
theorem dJ6_bitCount_0f7a4_22 : decode cJ6_bitCount_0f7a4 22 = .ok (.iadd, 1) := by decide +kernel
theorem dJ6_bitCount_0f7a4_23 : decode cJ6_bitCount_0f7a4 23 = .ok (.istore_n 0, 1) := by decide +kernel
theorem dJ6_bitCount_0f7a4_24 : decode cJ6_bitCount_0f7a4 24 = .ok (.iload_n 0, 1) := by decide +kernel
theorem dJ6_bitCount_0f7a4_25 : decode cJ6_bitCount_0f7a4 25 = .ok (.iload_n 0, 1) := by decide +kernel
theorem dJ6_bitCount_0f7a4_26 : decode cJ6_bitCount_0f7a4 26 = .ok (.iconst 4, 1) := by decide +kernel
theorem dJ6_bitCount_0f7a4_27 : decode cJ6_bitCount_0f7a4 27 = .ok (.iushr, 1) := by decide +kernel
theorem dJ6_bitCount_0f7a4_28 : decode cJ6_bitCount_0f7a4 28 = .ok (.iadd, 1) := by decide +kernel
theorem dJ6_bitCount_0f7a4_29 : decode cJ6_bitCount_0f7a4 29 = .ok (.ldc_w 267, 3) := by decide +kernel
theorem dJ6_bitCount_0f7a4_32 : decode cJ6_bitCount_0f7a4 32 = .ok (.iand, 1) := by decide +kernel
theorem dJ6_bitCount_0f7a4_33 : decode cJ6_bitCount_0f7a4 33 = .ok (.istore_n 0, 1) := by decide +kernel
theorem dJ6_bitCount_0f7a4_34 : decode cJ6_bitCount_0f7a4 34 = .ok (.iload_n 0, 1) := by decide +kernel
theorem dJ6_bitCount_0f7a4_35 : decode cJ6_bitCount_0f7a4 35 = .ok (.iload_n 0, 1) := by decide +kernel
theorem dJ6_bitCount_0f7a4_36 : decode cJ6_bitCount_0f7a4 36 = .ok (.bipush 8, 2) := by decide +kernel
theorem dJ6_bitCount_0f7a4_38 : decode cJ6_bitCount_0f7a4 38 = .ok (.iushr, 1) := by decide +kernel
theorem dJ6_bitCount_0f7a4_39 : decode cJ6_bitCount_0f7a4 39 = .ok (.iadd, 1) := by decide +kernel
theorem dJ6_bitCount_0f7a4_40 : decode cJ6_bitCount_0f7a4 40 = .ok (.istore_n 0, 1) := by decide +kernel
theorem dJ6_bitCount_0f7a4_41 : decode cJ6_bitCount_0f7a4 41 = .ok (.iload_n 0, 1) := by decide +kernel
theorem dJ6_bitCount_0f7a4_42 : decode cJ6_bitCount_0f7a4 42 = .ok (.iload_n 0, 1) := by decide +kernel
theorem dJ6_bitCount_0f7a4_43 : decode cJ6_bitCount_0f7a4 43 = .ok (.bipush 16, 2) := by decide +kernel
theorem dJ6_bitCount_0f7a4_45 : decode cJ6_bitCount_0f7a4 45 = .ok (.iushr, 1) := by decide +kernel
theorem dJ6_bitCount_0f7a4_46 : decode cJ6_bitCount_0f7a4 46 = .ok (.iadd, 1) := by decide +kernel
theorem dJ6_bitCount_0f7a4_47 : decode cJ6_bitCount_0f7a4 47 = .ok (.istore_n 0, 1) := by decide +kernel
theorem dJ6_bitCount_0f7a4_48 : decode cJ6_bitCount_0f7a4 48 = .ok (.iload_n 0, 1) := by decide +kernel
theorem dJ6_bitCount_0f7a4_49 : decode cJ6_bitCount_0f7a4 49 = .ok (.bipush 63, 2) := by decide +kernel
theorem dJ6_bitCount_0f7a4_51 : decode cJ6_bitCount_0f7a4 51 = .ok (.iand, 1) := by decide +kernel
theorem dJ6_bitCount_0f7a4_52 : decode cJ6_bitCount_0f7a4 52 = .ok (.ireturn, 1) := by decide +kernel
theorem dJ9_max_7cf53_0 : decode cJ9_max_7cf53 0 = .ok (.iload_n 0, 1) := by decide +kernel
theorem dJ9_max_7cf53_1 : decode cJ9_max_7cf53 1 = .ok (.iload_n 1, 1) := by decide +kernel
theorem dJ9_max_7cf53_2 : decode cJ9_max_7cf53 2 = .ok (.if_icmp .lt 7, 3) := by decide +kernel
theorem dJ9_max_7cf53_5 : decode cJ9_max_7cf53 5 = .ok (.iload_n 0, 1) := by decide +kernel
theorem dJ9_max_7cf53_6 : decode cJ9_max_7cf53 6 = .ok (.goto 4, 3) := by decide +kernel
theorem dJ9_max_7cf53_9 : decode cJ9_max_7cf53 9 = .ok (.iload_n 1, 1) := by decide +kernel
theorem dJ9_max_7cf53_10 : decode cJ9_max_7cf53 10 = .ok (.ireturn, 1) := by decide +kernel
theorem dJ9_min_7cf53_0 : decode cJ9_min_7cf53 0 = .ok (.iload_n 0, 1) := by decide +kernel
theorem dJ9_min_7cf53_1 : decode cJ9_min_7cf53 1 = .ok (.iload_n 1, 1) := by decide +kernel
theorem dJ9_min_7cf53_2 : decode cJ9_min_7cf53 2 = .ok (.if_icmp .gt 7, 3) := by decide +kernel
theorem dJ9_min_7cf53_5 : decode cJ9_min_7cf53 5 = .ok (.iload_n 0, 1) := by decide +kernel
theorem dJ9_min_7cf53_6 : decode cJ9_min_7cf53 6 = .ok (.goto 4, 3) := by decide +kernel
theorem dJ9_min_7cf53_9 : decode cJ9_min_7cf53 9 = .ok (.iload_n 1, 1) := by decide +kernel
theorem dJ9_min_7cf53_10 : decode cJ9_min_7cf53 10 = .ok (.ireturn, 1) := by decide +kernel
theorem dJ0_length_8abf5_0 : decode cJ0_length_8abf5 0 = .ok (.aload_n 0, 1) := by decide +kernel
theorem dJ0_length_8abf5_1 : decode cJ0_length_8abf5 1 = .ok (.getfield 9, 3) := by decide +kernel
theorem dJ0_length_8abf5_4 : decode cJ0_length_8abf5 4 = .ok (.arraylength, 1) := by decide +kernel
theorem dJ0_length_8abf5_5 : decode cJ0_length_8abf5 5 = .ok (.aload_n 0, 1) := by decide +kernel
theorem dJ0_length_8abf5_6 : decode cJ0_length_8abf5 6 = .ok (.invokevirtual 335, 3) := by decide +kernel
theorem dJ0_length_8abf5_9 : decode cJ0_length_8abf5 9 = .ok (.ishr, 1) := by decide +kernel
theorem dJ0_length_8abf5_10 : decode cJ0_length_8abf5 10 = .ok (.ireturn, 1) := by decide +kernel
theorem dJ0_charAt_5068e_0 : decode cJ0_charAt_5068e 0 = .ok (.aload_n 0, 1) := by decide +kernel
theorem dJ0_charAt_5068e_1 : decode cJ0_charAt_5068e 1 = .ok (.invokevirtual 492, 3) := by decide +kernel
theorem dJ0_charAt_5068e_4 : decode cJ0_charAt_5068e 4 = .ok (.ifCond .eq 12, 3) := by decide +kernel
theorem dJ0_charAt_5068e_7 : decode cJ0_charAt_5068e 7 = .ok (.aload_n 0, 1) := by decide +kernel
theorem dJ0_charAt_5068e_8 : decode cJ0_charAt_5068e 8 = .ok (.getfield 9, 3) := by decide +kernel
theorem dJ0_charAt_5068e_11 : decode cJ0_charAt_5068e 11 = .ok (.iload_n 1, 1) := by decide +kernel
theorem dJ0_charAt_5068e_12 : decode cJ0_charAt_5068e 12 = .ok (.invokestatic 495, 3) := by decide +kernel
theorem dJ0_charAt_5068e_15 : decode cJ0_charAt_5068e 15 = .ok (.ireturn, 1) := by decide +kernel
theorem dJ0_charAt_5068e_16 : decode cJ0_charAt_5068e 16 = .ok (.aload_n 0, 1) := by decide +kernel
theorem dJ0_charAt_5068e_17 : decode cJ0_charAt_5068e 17 = .ok (.getfield 9, 3) := by decide +kernel
theorem dJ0_charAt_5068e_20 : decode cJ0_charAt_5068e 20 = .ok (.iload_n 1, 1) := by decide +kernel
theorem dJ0_charAt_5068e_21 : decode cJ0_charAt_5068e 21 = .ok (.invokestatic 498, 3) := by decide +kernel
theorem dJ0_charAt_5068e_24 : decode cJ0_charAt_5068e 24 = .ok (.ireturn, 1) := by decide +kernel
theorem dJ0_indexOf_0f7a4_0 : decode cJ0_indexOf_0f7a4 0 = .ok (.aload_n 0, 1) := by decide +kernel
theorem dJ0_indexOf_0f7a4_1 : decode cJ0_indexOf_0f7a4 1 = .ok (.iload_n 1, 1) := by decide +kernel
theorem dJ0_indexOf_0f7a4_2 : decode cJ0_indexOf_0f7a4 2 = .ok (.iconst 0, 1) := by decide +kernel
theorem dJ0_indexOf_0f7a4_3 : decode cJ0_indexOf_0f7a4 3 = .ok (.invokevirtual 633, 3) := by decide +kernel
theorem dJ0_indexOf_0f7a4_6 : decode cJ0_indexOf_0f7a4 6 = .ok (.ireturn, 1) := by decide +kernel
theorem dJ0_indexOf_7cf53_0 : decode cJ0_indexOf_7cf53 0 = .ok (.aload_n 0, 1) := by decide +kernel
theorem dJ0_indexOf_7cf53_1 : decode cJ0_indexOf_7cf53 1 = .ok (.invokevirtual 492, 3) := by decide +kernel
theorem dJ0_indexOf_7cf53_4 : decode cJ0_indexOf_7cf53 4 = .ok (.ifCond .eq 19, 3) := by decide +kernel
theorem dJ0_indexOf_7cf53_7 : decode cJ0_indexOf_7cf53 7 = .ok (.aload_n 0, 1) := by decide +kernel
theorem dJ0_indexOf_7cf53_8 : decode cJ0_indexOf_7cf53 8 = .ok (.getfield 9, 3) := by decide +kernel
theorem dJ0_indexOf_7cf53_11 : decode cJ0_indexOf_7cf53 11 = .ok (.iload_n 1, 1) := by decide +kernel
theorem dJ0_indexOf_7cf53_12 : decode cJ0_indexOf_7cf53 12 = .ok (.iload_n 2, 1) := by decide +kernel
theorem dJ0_indexOf_7cf53_13 : decode cJ0_indexOf_7cf53 13 = .ok (.aload_n 0, 1) := by decide +kernel
theorem dJ0_indexOf_7cf53_14 : decode cJ0_indexOf_7cf53 14 = .ok (.invokevirtual 505, 3) := by decide +kernel
theorem dJ0_indexOf_7cf53_17 : decode cJ0_indexOf_7cf53 17 = .ok (.invokestatic 637, 3) := by decide +kernel
theorem dJ0_indexOf_7cf53_20 : decode cJ0_indexOf_7cf53 20 = .ok (.goto 16, 3) := by decide +kernel
theorem dJ0_indexOf_7cf53_23 : decode cJ0_indexOf_7cf53 23 = .ok (.aload_n 0, 1) := by decide +kernel
theorem dJ0_indexOf_7cf53_24 : decode cJ0_indexOf_7cf53 24 = .ok (.getfield 9, 3) := by decide +kernel
theorem dJ0_indexOf_7cf53_27 : decode cJ0_indexOf_7cf53 27 = .ok (.iload_n 1, 1) := by decide +kernel
theorem dJ0_indexOf_7cf53_28 : decode cJ0_indexOf_7cf53 28 = .ok (.iload_n 2, 1) := by decide +kernel
theorem dJ0_indexOf_7cf53_29 : decode cJ0_indexOf_7cf53 29 = .ok (.aload_n 0, 1) := by decide +kernel
theorem dJ0_indexOf_7cf53_30 : decode cJ0_indexOf_7cf53 30 = .ok (.invokevirtual 505, 3) := by decide +kernel
theorem dJ0_indexOf_7cf53_33 : decode cJ0_indexOf_7cf53 33 = .ok (.invokestatic 640, 3) := by decide +kernel
theorem dJ0_indexOf_7cf53_36 : decode cJ0_indexOf_7cf53 36 = .ok (.ireturn, 1) := by decide +kernel
theorem dJ0_coder_7d493_0 : decode cJ0_coder_7d493 0 = .ok (.getstatic 38, 3) := by decide +kernel
theorem dJ0_coder_7d493_3 : decode cJ0_coder_7d493 3 = .ok (.ifCond .eq 10, 3) := by decide +kernel
theorem dJ0_coder_7d493_6 : decode cJ0_coder_7d493 6 = .ok (.aload_n 0, 1) := by decide +kernel
theorem dJ0_coder_7d493_7 : decode cJ0_coder_7d493 7 = .ok (.getfield 15, 3) := by decide +kernel
theorem dJ0_coder_7d493_10 : decode cJ0_coder_7d493 10 = .ok (.goto 4, 3) := by decide +kernel
theorem dJ0_coder_7d493_13 : decode cJ0_coder_7d493 13 = .ok (.iconst 1, 1) := by decide +kernel
theorem dJ0_coder_7d493_14 : decode cJ0_coder_7d493 14 = .ok (.ireturn, 1) := by decide +kernel
theorem dJ0_isLatin1_aae02_0 : decode cJ0_isLatin1_aae02 0 = .ok (.getstatic 38, 3) := by decide +kernel
theorem dJ0_isLatin1_aae02_3 : decode cJ0_isLatin1_aae02 3 = .ok (.ifCond .eq 14, 3) := by decide +kernel
theorem dJ0_isLatin1_aae02_6 : decode cJ0_isLatin1_aae02 6 = .ok (.aload_n 0, 1) := by decide +kernel
theorem dJ0_isLatin1_aae02_7 : decode cJ0_isLatin1_aae02 7 = .ok (.getfield 15, 3) := by decide +kernel
theorem dJ0_isLatin1_aae02_10 : decode cJ0_isLatin1_aae02 10 = .ok (.ifCond .ne 7, 3) := by decide +kernel
theorem dJ0_isLatin1_aae02_13 : decode cJ0_isLatin1_aae02 13 = .ok (.iconst 1, 1) := by decide +kernel
theorem dJ0_isLatin1_aae02_14 : decode cJ0_isLatin1_aae02 14 = .ok (.goto 4, 3) := by decide +kernel
theorem dJ0_isLatin1_aae02_17 : decode cJ0_isLatin1_aae02 17 = .ok (.iconst 0, 1) := by decide +kernel
theorem dJ0_isLatin1_aae02_18 : decode cJ0_isLatin1_aae02 18 = .ok (.ireturn, 1) := by decide +kernel
theorem dJ0_checkIndex_df160_0 : decode cJ0_checkIndex_df160 0 = .ok (.iload_n 0, 1) := by decide +kernel
theorem dJ0_checkIndex_df160_1 : decode cJ0_checkIndex_df160 1 = .ok (.iload_n 1, 1) := by decide +kernel
theorem dJ0_checkIndex_df160_2 : decode cJ0_checkIndex_df160 2 = .ok (.getstatic 1053, 3) := by decide +kernel
theorem dJ0_checkIndex_df160_5 : decode cJ0_checkIndex_df160 5 = .ok (.invokestatic 1059, 3) := by decide +kernel
theorem dJ0_checkIndex_df160_8 : decode cJ0_checkIndex_df160 8 = .ok (.pop, 1) := by decide +kernel
theorem dJ0_checkIndex_df160_9 : decode cJ0_checkIndex_df160 9 = .ok (.return_, 1) := by decide +kernel
theorem dJ0_checkBoundsBeginEnd_23922_0 : decode cJ0_checkBoundsBeginEnd_23922 0 = .ok (.iload_n 0, 1) := by decide +kernel
theorem dJ0_checkBoundsBeginEnd_23922_1 : decode cJ0_checkBoundsBeginEnd_23922 1 = .ok (.iload_n 1, 1) := by decide +kernel
theorem dJ0_checkBoundsBeginEnd_23922_2 : decode cJ0_checkBoundsBeginEnd_23922 2 = .ok (.iload_n 2, 1) := by decide +kernel
theorem dJ0_checkBoundsBeginEnd_23922_3 : decode cJ0_checkBoundsBeginEnd_23922 3 = .ok (.getstatic 1053, 3) := by decide +kernel
theorem dJ0_checkBoundsBeginEnd_23922_6 : decode cJ0_checkBoundsBeginEnd_23922 6 = .ok (.invokestatic 1062, 3) := by decide +kernel
theorem dJ0_checkBoundsBeginEnd_23922_9 : decode cJ0_checkBoundsBeginEnd_23922 9 = .ok (.pop, 1) := by decide +kernel
theorem dJ0_checkBoundsBeginEnd_23922_10 : decode cJ0_checkBoundsBeginEnd_23922 10 = .ok (.return_, 1) := by decide +kernel
theorem dJ1_charAt_3b067_0 : decode cJ1_charAt_3b067 0 = .ok (.iload_n 1, 1) := by decide +kernel
theorem dJ1_charAt_3b067_1 : decode cJ1_charAt_3b067 1 = .ok (.aload_n 0, 1) := by decide +kernel
theorem dJ1_charAt_3b067_2 : decode cJ1_charAt_3b067 2 = .ok (.arraylength, 1) := by decide +kernel
theorem dJ1_charAt_3b067_3 : decode cJ1_charAt_3b067 3 = .ok (.invokestatic 9, 3) := by decide +kernel
theorem dJ1_charAt_3b067_6 : decode cJ1_charAt_3b067 6 = .ok (.aload_n 0, 1) := by decide +kernel
theorem dJ1_charAt_3b067_7 : decode cJ1_charAt_3b067 7 = .ok (.iload_n 1, 1) := by decide +kernel
theorem dJ1_charAt_3b067_8 : decode cJ1_charAt_3b067 8 = .ok (.baload, 1) := by decide +kernel
theorem dJ1_charAt_3b067_9 : decode cJ1_charAt_3b067 9 = .ok (.sipush 255, 3) := by decide +kernel
theorem dJ1_charAt_3b067_12 : decode cJ1_charAt_3b067 12 = .ok (.iand, 1) := by decide +kernel
theorem dJ1_charAt_3b067_13 : decode cJ1_charAt_3b067 13 = .ok (.i2c, 1) := by decide +kernel
theorem dJ1_charAt_3b067_14 : decode cJ1_charAt_3b067 14 = .ok (.ireturn, 1) := by decide +kernel
theorem dJ1_canEncode_9a6ad_0 : decode cJ1_canEncode_9a6ad 0 = .ok (.iload_n 0, 1) := by decide +kernel
theorem dJ1_canEncode_9a6ad_1 : decode cJ1_canEncode_9a6ad 1 = .ok (.ifCond .lt 14, 3) := by decide +kernel
theorem dJ1_canEncode_9a6ad_4 : decode cJ1_canEncode_9a6ad 4 = .ok (.iload_n 0, 1) := by decide +kernel
theorem dJ1_canEncode_9a6ad_5 : decode cJ1_canEncode_9a6ad 5 = .ok (.sipush 255, 3) := by decide +kernel
theorem dJ1_canEncode_9a6ad_8 : decode cJ1_canEncode_9a6ad 8 = .ok (.if_icmp .gt 7, 3) := by decide +kernel
theorem dJ1_canEncode_9a6ad_11 : decode cJ1_canEncode_9a6ad 11 = .ok (.iconst 1, 1) := by decide +kernel
theorem dJ1_canEncode_9a6ad_12 : decode cJ1_canEncode_9a6ad 12 = .ok (.goto 4, 3) := by decide +kernel
theorem dJ1_canEncode_9a6ad_15 : decode cJ1_canEncode_9a6ad 15 = .ok (.iconst 0, 1) := by decide +kernel
theorem dJ1_canEncode_9a6ad_16 : decode cJ1_canEncode_9a6ad 16 = .ok (.ireturn, 1) := by decide +kernel
theorem dJ1_indexOf_4cfef_0 : decode cJ1_indexOf_4cfef 0 = .ok (.iload_n 1, 1) := by decide +kernel
theorem dJ1_indexOf_4cfef_1 : decode cJ1_indexOf_4cfef 1 = .ok (.invokestatic 88, 3) := by decide +kernel
theorem dJ1_indexOf_4cfef_4 : decode cJ1_indexOf_4cfef 4 = .ok (.ifCond .ne 5, 3) := by decide +kernel
theorem dJ1_indexOf_4cfef_7 : decode cJ1_indexOf_4cfef 7 = .ok (.iconst (-1), 1) := by decide +kernel
theorem dJ1_indexOf_4cfef_8 : decode cJ1_indexOf_4cfef 8 = .ok (.ireturn, 1) := by decide +kernel
theorem dJ1_indexOf_4cfef_9 : decode cJ1_indexOf_4cfef 9 = .ok (.iload_n 2, 1) := by decide +kernel
theorem dJ1_indexOf_4cfef_10 : decode cJ1_indexOf_4cfef 10 = .ok (.iconst 0, 1) := by decide +kernel
theorem dJ1_indexOf_4cfef_11 : decode cJ1_indexOf_4cfef 11 = .ok (.invokestatic 92, 3) := by decide +kernel
theorem dJ1_indexOf_4cfef_14 : decode cJ1_indexOf_4cfef 14 = .ok (.istore_n 2, 1) := by decide +kernel
theorem dJ1_indexOf_4cfef_15 : decode cJ1_indexOf_4cfef 15 = .ok (.iload_n 3, 1) := by decide +kernel
theorem dJ1_indexOf_4cfef_16 : decode cJ1_indexOf_4cfef 16 = .ok (.aload_n 0, 1) := by decide +kernel
theorem dJ1_indexOf_4cfef_17 : decode cJ1_indexOf_4cfef 17 = .ok (.arraylength, 1) := by decide +kernel
theorem dJ1_indexOf_4cfef_18 : decode cJ1_indexOf_4cfef 18 = .ok (.invokestatic 38, 3) := by decide +kernel
theorem dJ1_indexOf_4cfef_21 : decode cJ1_indexOf_4cfef 21 = .ok (.istore_n 3, 1) := by decide +kernel
theorem dJ1_indexOf_4cfef_22 : decode cJ1_indexOf_4cfef 22 = .ok (.iload_n 2, 1) := by decide +kernel
theorem dJ1_indexOf_4cfef_23 : decode cJ1_indexOf_4cfef 23 = .ok (.iload_n 3, 1) := by decide +kernel
theorem dJ1_indexOf_4cfef_24 : decode cJ1_indexOf_4cfef 24 = .ok (.if_icmp .lt 5, 3) := by decide +kernel
theorem dJ1_indexOf_4cfef_27 : decode cJ1_indexOf_4cfef 27 = .ok (.iconst (-1), 1) := by decide +kernel
theorem dJ1_indexOf_4cfef_28 : decode cJ1_indexOf_4cfef 28 = .ok (.ireturn, 1) := by decide +kernel
theorem dJ1_indexOf_4cfef_29 : decode cJ1_indexOf_4cfef 29 = .ok (.aload_n 0, 1) := by decide +kernel
theorem dJ1_indexOf_4cfef_30 : decode cJ1_indexOf_4cfef 30 = .ok (.iload_n 1, 1) := by decide +kernel
theorem dJ1_indexOf_4cfef_31 : decode cJ1_indexOf_4cfef 31 = .ok (.iload_n 2, 1) := by decide +kernel
theorem dJ1_indexOf_4cfef_32 : decode cJ1_indexOf_4cfef 32 = .ok (.iload_n 3, 1) := by decide +kernel
theorem dJ1_indexOf_4cfef_33 : decode cJ1_indexOf_4cfef 33 = .ok (.invokestatic 95, 3) := by decide +kernel
theorem dJ1_indexOf_4cfef_36 : decode cJ1_indexOf_4cfef 36 = .ok (.ireturn, 1) := by decide +kernel
theorem dJ1_indexOfChar_4cfef_0 : decode cJ1_indexOfChar_4cfef 0 = .ok (.iload_n 1, 1) := by decide +kernel
theorem dJ1_indexOfChar_4cfef_1 : decode cJ1_indexOfChar_4cfef 1 = .ok (.i2b, 1) := by decide +kernel
theorem dJ1_indexOfChar_4cfef_2 : decode cJ1_indexOfChar_4cfef 2 = .ok (.istore 4, 2) := by decide +kernel
theorem dJ1_indexOfChar_4cfef_4 : decode cJ1_indexOfChar_4cfef 4 = .ok (.iload_n 2, 1) := by decide +kernel
theorem dJ1_indexOfChar_4cfef_5 : decode cJ1_indexOfChar_4cfef 5 = .ok (.istore 5, 2) := by decide +kernel
theorem dJ1_indexOfChar_4cfef_7 : decode cJ1_indexOfChar_4cfef 7 = .ok (.iload 5, 2) := by decide +kernel
theorem dJ1_indexOfChar_4cfef_9 : decode cJ1_indexOfChar_4cfef 9 = .ok (.iload_n 3, 1) := by decide +kernel
theorem dJ1_indexOfChar_4cfef_10 : decode cJ1_indexOfChar_4cfef 10 = .ok (.if_icmp .ge 21, 3) := by decide +kernel
theorem dJ1_indexOfChar_4cfef_13 : decode cJ1_indexOfChar_4cfef 13 = .ok (.aload_n 0, 1) := by decide +kernel
theorem dJ1_indexOfChar_4cfef_14 : decode cJ1_indexOfChar_4cfef 14 = .ok (.iload 5, 2) := by decide +kernel
theorem dJ1_indexOfChar_4cfef_16 : decode cJ1_indexOfChar_4cfef 16 = .ok (.baload, 1) := by decide +kernel
theorem dJ1_indexOfChar_4cfef_17 : decode cJ1_indexOfChar_4cfef 17 = .ok (.iload 4, 2) := by decide +kernel
theorem dJ1_indexOfChar_4cfef_19 : decode cJ1_indexOfChar_4cfef 19 = .ok (.if_icmp .ne 6, 3) := by decide +kernel
theorem dJ1_indexOfChar_4cfef_22 : decode cJ1_indexOfChar_4cfef 22 = .ok (.iload 5, 2) := by decide +kernel
theorem dJ1_indexOfChar_4cfef_24 : decode cJ1_indexOfChar_4cfef 24 = .ok (.ireturn, 1) := by decide +kernel
theorem dJ1_indexOfChar_4cfef_25 : decode cJ1_indexOfChar_4cfef 25 = .ok (.iinc 5 1, 3) := by decide +kernel
theorem dJ1_indexOfChar_4cfef_28 : decode cJ1_indexOfChar_4cfef 28 = .ok (.goto (-21), 3) := by decide +kernel
theorem dJ1_indexOfChar_4cfef_31 : decode cJ1_indexOfChar_4cfef 31 = .ok (.iconst (-1), 1) := by decide +kernel
theorem dJ1_indexOfChar_4cfef_32 : decode cJ1_indexOfChar_4cfef 32 = .ok (.ireturn, 1) := by decide +kernel
theorem dJ2_getChar_3b067_0 : decode cJ2_getChar_3b067 0 = .ok (.getstatic 44, 3) := by decide +kernel
theorem dJ2_getChar_3b067_3 : decode cJ2_getChar_3b067 3 = .ok (.ifCond .ne 25, 3) := by decide +kernel
theorem dJ2_getChar_3b067_6 : decode cJ2_getChar_3b067 6 = .ok (.iload_n 1, 1) := by decide +kernel
theorem dJ2_getChar_3b067_7 : decode cJ2_getChar_3b067 7 = .ok (.ifCond .lt 11, 3) := by decide +kernel
theorem dJ2_getChar_3b067_10 : decode cJ2_getChar_3b067 10 = .ok (.iload_n 1, 1) := by decide +kernel
theorem dJ2_getChar_3b067_11 : decode cJ2_getChar_3b067 11 = .ok (.aload_n 0, 1) := by decide +kernel
theorem dJ2_getChar_3b067_12 : decode cJ2_getChar_3b067 12 = .ok (.invokestatic 48, 3) := by decide +kernel
theorem dJ2_getChar_3b067_15 : decode cJ2_getChar_3b067 15 = .ok (.if_icmp .lt 13, 3) := by decide +kernel
theorem dJ2_getChar_3b067_18 : decode cJ2_getChar_3b067 18 = .ok (.new 52, 3) := by decide +kernel
theorem dJ2_getChar_3b067_21 : decode cJ2_getChar_3b067 21 = .ok (.dup, 1) := by decide +kernel
theorem dJ2_getChar_3b067_22 : decode cJ2_getChar_3b067 22 = .ok (.ldc 54, 2) := by decide +kernel
theorem dJ2_getChar_3b067_24 : decode cJ2_getChar_3b067 24 = .ok (.invokespecial 56, 3) := by decide +kernel
theorem dJ2_getChar_3b067_27 : decode cJ2_getChar_3b067 27 = .ok (.athrow, 1) := by decide +kernel
theorem dJ2_getChar_3b067_28 : decode cJ2_getChar_3b067 28 = .ok (.iload_n 1, 1) := by decide +kernel
theorem dJ2_getChar_3b067_29 : decode cJ2_getChar_3b067 29 = .ok (.iconst 1, 1) := by decide +kernel
theorem dJ2_getChar_3b067_30 : decode cJ2_getChar_3b067 30 = .ok (.ishl, 1) := by decide +kernel
theorem dJ2_getChar_3b067_31 : decode cJ2_getChar_3b067 31 = .ok (.istore_n 1, 1) := by decide +kernel
theorem dJ2_getChar_3b067_32 : decode cJ2_getChar_3b067 32 = .ok (.aload_n 0, 1) := by decide +kernel
theorem dJ2_getChar_3b067_33 : decode cJ2_getChar_3b067 33 = .ok (.iload_n 1, 1) := by decide +kernel
theorem dJ2_getChar_3b067_34 : decode cJ2_getChar_3b067 34 = .ok (.iinc 1 1, 3) := by decide +kernel
theorem dJ2_getChar_3b067_37 : decode cJ2_getChar_3b067 37 = .ok (.baload, 1) := by decide +kernel
theorem dJ2_getChar_3b067_38 : decode cJ2_getChar_3b067 38 = .ok (.sipush 255, 3) := by decide +kernel
theorem dJ2_getChar_3b067_41 : decode cJ2_getChar_3b067 41 = .ok (.iand, 1) := by decide +kernel
theorem dJ2_getChar_3b067_42 : decode cJ2_getChar_3b067 42 = .ok (.getstatic 59, 3) := by decide +kernel
theorem dJ2_getChar_3b067_45 : decode cJ2_getChar_3b067 45 = .ok (.ishl, 1) := by decide +kernel
theorem dJ2_getChar_3b067_46 : decode cJ2_getChar_3b067 46 = .ok (.aload_n 0, 1) := by decide +kernel
theorem dJ2_getChar_3b067_47 : decode cJ2_getChar_3b067 47 = .ok (.iload_n 1, 1) := by decide +kernel
theorem dJ2_getChar_3b067_48 : decode cJ2_getChar_3b067 48 = .ok (.baload, 1) := by decide +kernel
theorem dJ2_getChar_3b067_49 : decode cJ2_getChar_3b067 49 = .ok (.sipush 255, 3) := by decide +kernel
theorem dJ2_getChar_3b067_52 : decode cJ2_getChar_3b067 52 = .ok (.iand, 1) := by decide +kernel
theorem dJ2_getChar_3b067_53 : decode cJ2_getChar_3b067 53 = .ok (.getstatic 63, 3) := by decide +kernel
theorem dJ2_getChar_3b067_56 : decode cJ2_getChar_3b067 56 = .ok (.ishl, 1) := by decide +kernel
theorem dJ2_getChar_3b067_57 : decode cJ2_getChar_3b067 57 = .ok (.ior, 1) := by decide +kernel
theorem dJ2_getChar_3b067_58 : decode cJ2_getChar_3b067 58 = .ok (.i2c, 1) := by decide +kernel
theorem dJ2_getChar_3b067_59 : decode cJ2_getChar_3b067 59 = .ok (.ireturn, 1) := by decide +kernel
theorem dJ2_length_9d52b_0 : decode cJ2_length_9d52b 0 = .ok (.aload_n 0, 1) := by decide +kernel
theorem dJ2_length_9d52b_1 : decode cJ2_length_9d52b 1 = .ok (.arraylength, 1) := by decide +kernel
theorem dJ2_length_9d52b_2 : decode cJ2_length_9d52b 2 = .ok (.iconst 1, 1) := by decide +kernel
theorem dJ2_length_9d52b_3 : decode cJ2_length_9d52b 3 = .ok (.ishr, 1) := by decide +kernel
theorem dJ2_length_9d52b_4 : decode cJ2_length_9d52b 4 = .ok (.ireturn, 1) := by decide +kernel
theorem dJ2_indexOf_4cfef_0 : decode cJ2_indexOf_4cfef 0 = .ok (.iload_n 2, 1) := by decide +kernel
theorem dJ2_indexOf_4cfef_1 : decode cJ2_indexOf_4cfef 1 = .ok (.iconst 0, 1) := by decide +kernel
theorem dJ2_indexOf_4cfef_2 : decode cJ2_indexOf_4cfef 2 = .ok (.invokestatic 224, 3) := by decide +kernel
theorem dJ2_indexOf_4cfef_5 : decode cJ2_indexOf_4cfef 5 = .ok (.istore_n 2, 1) := by decide +kernel
theorem dJ2_indexOf_4cfef_6 : decode cJ2_indexOf_4cfef 6 = .ok (.iload_n 3, 1) := by decide +kernel
theorem dJ2_indexOf_4cfef_7 : decode cJ2_indexOf_4cfef 7 = .ok (.aload_n 0, 1) := by decide +kernel
theorem dJ2_indexOf_4cfef_8 : decode cJ2_indexOf_4cfef 8 = .ok (.arraylength, 1) := by decide +kernel
theorem dJ2_indexOf_4cfef_9 : decode cJ2_indexOf_4cfef 9 = .ok (.iconst 1, 1) := by decide +kernel
theorem dJ2_indexOf_4cfef_10 : decode cJ2_indexOf_4cfef 10 = .ok (.ishr, 1) := by decide +kernel
theorem dJ2_indexOf_4cfef_11 : decode cJ2_indexOf_4cfef 11 = .ok (.invokestatic 183, 3) := by decide +kernel
theorem dJ2_indexOf_4cfef_14 : decode cJ2_indexOf_4cfef 14 = .ok (.istore_n 3, 1) := by decide +kernel
theorem dJ2_indexOf_4cfef_15 : decode cJ2_indexOf_4cfef 15 = .ok (.iload_n 2, 1) := by decide +kernel
theorem dJ2_indexOf_4cfef_16 : decode cJ2_indexOf_4cfef 16 = .ok (.iload_n 3, 1) := by decide +kernel
theorem dJ2_indexOf_4cfef_17 : decode cJ2_indexOf_4cfef 17 = .ok (.if_icmp .lt 5, 3) := by decide +kernel
theorem dJ2_indexOf_4cfef_20 : decode cJ2_indexOf_4cfef 20 = .ok (.iconst (-1), 1) := by decide +kernel
theorem dJ2_indexOf_4cfef_21 : decode cJ2_indexOf_4cfef 21 = .ok (.ireturn, 1) := by decide +kernel
theorem dJ2_indexOf_4cfef_22 : decode cJ2_indexOf_4cfef 22 = .ok (.iload_n 1, 1) := by decide +kernel
theorem dJ2_indexOf_4cfef_23 : decode cJ2_indexOf_4cfef 23 = .ok (.ldc 227, 2) := by decide +kernel
theorem dJ2_indexOf_4cfef_25 : decode cJ2_indexOf_4cfef 25 = .ok (.if_icmp .ge 11, 3) := by decide +kernel
theorem dJ2_indexOf_4cfef_28 : decode cJ2_indexOf_4cfef 28 = .ok (.aload_n 0, 1) := by decide +kernel
theorem dJ2_indexOf_4cfef_29 : decode cJ2_indexOf_4cfef 29 = .ok (.iload_n 1, 1) := by decide +kernel
theorem dJ2_indexOf_4cfef_30 : decode cJ2_indexOf_4cfef 30 = .ok (.iload_n 2, 1) := by decide +kernel
theorem dJ2_indexOf_4cfef_31 : decode cJ2_indexOf_4cfef 31 = .ok (.iload_n 3, 1) := by decide +kernel
theorem dJ2_indexOf_4cfef_32 : decode cJ2_indexOf_4cfef 32 = .ok (.invokestatic 228, 3) := by decide +kernel
theorem dJ2_indexOf_4cfef_35 : decode cJ2_indexOf_4cfef 35 = .ok (.ireturn, 1) := by decide +kernel
theorem dJ2_indexOf_4cfef_36 : decode cJ2_indexOf_4cfef 36 = .ok (.aload_n 0, 1) := by decide +kernel
theorem dJ2_indexOf_4cfef_37 : decode cJ2_indexOf_4cfef 37 = .ok (.iload_n 1, 1) := by decide +kernel
theorem dJ2_indexOf_4cfef_38 : decode cJ2_indexOf_4cfef 38 = .ok (.iload_n 2, 1) := by decide +kernel
theorem dJ2_indexOf_4cfef_39 : decode cJ2_indexOf_4cfef 39 = .ok (.iload_n 3, 1) := by decide +kernel
theorem dJ2_indexOf_4cfef_40 : decode cJ2_indexOf_4cfef 40 = .ok (.invokestatic 232, 3) := by decide +kernel
theorem dJ2_indexOf_4cfef_43 : decode cJ2_indexOf_4cfef 43 = .ok (.ireturn, 1) := by decide +kernel
theorem dJ2_indexOfChar_4cfef_0 : decode cJ2_indexOfChar_4cfef 0 = .ok (.iload_n 2, 1) := by decide +kernel
theorem dJ2_indexOfChar_4cfef_1 : decode cJ2_indexOfChar_4cfef 1 = .ok (.iload_n 3, 1) := by decide +kernel
theorem dJ2_indexOfChar_4cfef_2 : decode cJ2_indexOfChar_4cfef 2 = .ok (.aload_n 0, 1) := by decide +kernel
theorem dJ2_indexOfChar_4cfef_3 : decode cJ2_indexOfChar_4cfef 3 = .ok (.invokestatic 96, 3) := by decide +kernel
theorem dJ2_indexOfChar_4cfef_6 : decode cJ2_indexOfChar_4cfef 6 = .ok (.aload_n 0, 1) := by decide +kernel
theorem dJ2_indexOfChar_4cfef_7 : decode cJ2_indexOfChar_4cfef 7 = .ok (.iload_n 1, 1) := by decide +kernel
theorem dJ2_indexOfChar_4cfef_8 : decode cJ2_indexOfChar_4cfef 8 = .ok (.iload_n 2, 1) := by decide +kernel
theorem dJ2_indexOfChar_4cfef_9 : decode cJ2_indexOfChar_4cfef 9 = .ok (.iload_n 3, 1) := by decide +kernel
theorem dJ2_indexOfChar_4cfef_10 : decode cJ2_indexOfChar_4cfef 10 = .ok (.invokestatic 244, 3) := by decide +kernel
theorem dJ2_indexOfChar_4cfef_13 : decode cJ2_indexOfChar_4cfef 13 = .ok (.ireturn, 1) := by decide +kernel
theorem dJ2_indexOfCharUnsafe_4cfef_0 : decode cJ2_indexOfCharUnsafe_4cfef 0 = .ok (.iload_n 2, 1) := by decide +kernel
theorem dJ2_indexOfCharUnsafe_4cfef_1 : decode cJ2_indexOfCharUnsafe_4cfef 1 = .ok (.istore 4, 2) := by decide +kernel
theorem dJ2_indexOfCharUnsafe_4cfef_3 : decode cJ2_indexOfCharUnsafe_4cfef 3 = .ok (.iload 4, 2) := by decide +kernel
theorem dJ2_indexOfCharUnsafe_4cfef_5 : decode cJ2_indexOfCharUnsafe_4cfef 5 = .ok (.iload_n 3, 1) := by decide +kernel
theorem dJ2_indexOfCharUnsafe_4cfef_6 : decode cJ2_indexOfCharUnsafe_4cfef 6 = .ok (.if_icmp .ge 22, 3) := by decide +kernel
theorem dJ2_indexOfCharUnsafe_4cfef_9 : decode cJ2_indexOfCharUnsafe_4cfef 9 = .ok (.aload_n 0, 1) := by decide +kernel
theorem dJ2_indexOfCharUnsafe_4cfef_10 : decode cJ2_indexOfCharUnsafe_4cfef 10 = .ok (.iload 4, 2) := by decide +kernel
theorem dJ2_indexOfCharUnsafe_4cfef_12 : decode cJ2_indexOfCharUnsafe_4cfef 12 = .ok (.invokestatic 71, 3) := by decide +kernel
theorem dJ2_indexOfCharUnsafe_4cfef_15 : decode cJ2_indexOfCharUnsafe_4cfef 15 = .ok (.iload_n 1, 1) := by decide +kernel
theorem dJ2_indexOfCharUnsafe_4cfef_16 : decode cJ2_indexOfCharUnsafe_4cfef 16 = .ok (.if_icmp .ne 6, 3) := by decide +kernel
theorem dJ2_indexOfCharUnsafe_4cfef_19 : decode cJ2_indexOfCharUnsafe_4cfef 19 = .ok (.iload 4, 2) := by decide +kernel
theorem dJ2_indexOfCharUnsafe_4cfef_21 : decode cJ2_indexOfCharUnsafe_4cfef 21 = .ok (.ireturn, 1) := by decide +kernel
theorem dJ2_indexOfCharUnsafe_4cfef_22 : decode cJ2_indexOfCharUnsafe_4cfef 22 = .ok (.iinc 4 1, 3) := by decide +kernel
theorem dJ2_indexOfCharUnsafe_4cfef_25 : decode cJ2_indexOfCharUnsafe_4cfef 25 = .ok (.goto (-22), 3) := by decide +kernel
theorem dJ2_indexOfCharUnsafe_4cfef_28 : decode cJ2_indexOfCharUnsafe_4cfef 28 = .ok (.iconst (-1), 1) := by decide +kernel
theorem dJ2_indexOfCharUnsafe_4cfef_29 : decode cJ2_indexOfCharUnsafe_4cfef 29 = .ok (.ireturn, 1) := by decide +kernel
theorem dJ2_indexOfSupplementary_4cfef_0 : decode cJ2_indexOfSupplementary_4cfef 0 = .ok (.iload_n 1, 1) := by decide +kernel
theorem dJ2_indexOfSupplementary_4cfef_1 : decode cJ2_indexOfSupplementary_4cfef 1 = .ok (.invokestatic 164, 3) := by decide +kernel
theorem dJ2_indexOfSupplementary_4cfef_4 : decode cJ2_indexOfSupplementary_4cfef 4 = .ok (.ifCond .eq 65, 3) := by decide +kernel
theorem dJ2_indexOfSupplementary_4cfef_7 : decode cJ2_indexOfSupplementary_4cfef 7 = .ok (.iload_n 1, 1) := by decide +kernel
theorem dJ2_indexOfSupplementary_4cfef_8 : decode cJ2_indexOfSupplementary_4cfef 8 = .ok (.invokestatic 157, 3) := by decide +kernel
theorem dJ2_indexOfSupplementary_4cfef_11 : decode cJ2_indexOfSupplementary_4cfef 11 = .ok (.istore 4, 2) := by decide +kernel
theorem dJ2_indexOfSupplementary_4cfef_13 : decode cJ2_indexOfSupplementary_4cfef 13 = .ok (.iload_n 1, 1) := by decide +kernel
theorem dJ2_indexOfSupplementary_4cfef_14 : decode cJ2_indexOfSupplementary_4cfef 14 = .ok (.invokestatic 161, 3) := by decide +kernel
theorem dJ2_indexOfSupplementary_4cfef_17 : decode cJ2_indexOfSupplementary_4cfef 17 = .ok (.istore 5, 2) := by decide +kernel
theorem dJ2_indexOfSupplementary_4cfef_19 : decode cJ2_indexOfSupplementary_4cfef 19 = .ok (.iload_n 2, 1) := by decide +kernel
theorem dJ2_indexOfSupplementary_4cfef_20 : decode cJ2_indexOfSupplementary_4cfef 20 = .ok (.iload_n 3, 1) := by decide +kernel
theorem dJ2_indexOfSupplementary_4cfef_21 : decode cJ2_indexOfSupplementary_4cfef 21 = .ok (.aload_n 0, 1) := by decide +kernel
theorem dJ2_indexOfSupplementary_4cfef_22 : decode cJ2_indexOfSupplementary_4cfef 22 = .ok (.invokestatic 96, 3) := by decide +kernel
theorem dJ2_indexOfSupplementary_4cfef_25 : decode cJ2_indexOfSupplementary_4cfef 25 = .ok (.iload_n 2, 1) := by decide +kernel
theorem dJ2_indexOfSupplementary_4cfef_26 : decode cJ2_indexOfSupplementary_4cfef 26 = .ok (.istore 6, 2) := by decide +kernel
theorem dJ2_indexOfSupplementary_4cfef_28 : decode cJ2_indexOfSupplementary_4cfef 28 = .ok (.iload 6, 2) := by decide +kernel
theorem dJ2_indexOfSupplementary_4cfef_30 : decode cJ2_indexOfSupplementary_4cfef 30 = .ok (.iload_n 3, 1) := by decide +kernel
theorem dJ2_indexOfSupplementary_4cfef_31 : decode cJ2_indexOfSupplementary_4cfef 31 = .ok (.iconst 1, 1) := by decide +kernel
theorem dJ2_indexOfSupplementary_4cfef_32 : decode cJ2_indexOfSupplementary_4cfef 32 = .ok (.isub, 1) := by decide +kernel
theorem dJ2_indexOfSupplementary_4cfef_33 : decode cJ2_indexOfSupplementary_4cfef 33 = .ok (.if_icmp .ge 36, 3) := by decide +kernel
theorem dJ2_indexOfSupplementary_4cfef_36 : decode cJ2_indexOfSupplementary_4cfef 36 = .ok (.aload_n 0, 1) := by decide +kernel
theorem dJ2_indexOfSupplementary_4cfef_37 : decode cJ2_indexOfSupplementary_4cfef 37 = .ok (.iload 6, 2) := by decide +kernel
theorem dJ2_indexOfSupplementary_4cfef_39 : decode cJ2_indexOfSupplementary_4cfef 39 = .ok (.invokestatic 71, 3) := by decide +kernel
theorem dJ2_indexOfSupplementary_4cfef_42 : decode cJ2_indexOfSupplementary_4cfef 42 = .ok (.iload 4, 2) := by decide +kernel
theorem dJ2_indexOfSupplementary_4cfef_44 : decode cJ2_indexOfSupplementary_4cfef 44 = .ok (.if_icmp .ne 19, 3) := by decide +kernel
theorem dJ2_indexOfSupplementary_4cfef_47 : decode cJ2_indexOfSupplementary_4cfef 47 = .ok (.aload_n 0, 1) := by decide +kernel
theorem dJ2_indexOfSupplementary_4cfef_48 : decode cJ2_indexOfSupplementary_4cfef 48 = .ok (.iload 6, 2) := by decide +kernel
theorem dJ2_indexOfSupplementary_4cfef_50 : decode cJ2_indexOfSupplementary_4cfef 50 = .ok (.iconst 1, 1) := by decide +kernel
theorem dJ2_indexOfSupplementary_4cfef_51 : decode cJ2_indexOfSupplementary_4cfef 51 = .ok (.iadd, 1) := by decide +kernel
theorem dJ2_indexOfSupplementary_4cfef_52 : decode cJ2_indexOfSupplementary_4cfef 52 = .ok (.invokestatic 71, 3) := by decide +kernel
theorem dJ2_indexOfSupplementary_4cfef_55 : decode cJ2_indexOfSupplementary_4cfef 55 = .ok (.iload 5, 2) := by decide +kernel
theorem dJ2_indexOfSupplementary_4cfef_57 : decode cJ2_indexOfSupplementary_4cfef 57 = .ok (.if_icmp .ne 6, 3) := by decide +kernel
theorem dJ2_indexOfSupplementary_4cfef_60 : decode cJ2_indexOfSupplementary_4cfef 60 = .ok (.iload 6, 2) := by decide +kernel
theorem dJ2_indexOfSupplementary_4cfef_62 : decode cJ2_indexOfSupplementary_4cfef 62 = .ok (.ireturn, 1) := by decide +kernel
theorem dJ2_indexOfSupplementary_4cfef_63 : decode cJ2_indexOfSupplementary_4cfef 63 = .ok (.iinc 6 1, 3) := by decide +kernel
theorem dJ2_indexOfSupplementary_4cfef_66 : decode cJ2_indexOfSupplementary_4cfef 66 = .ok (.goto (-38), 3) := by decide +kernel
theorem dJ2_indexOfSupplementary_4cfef_69 : decode cJ2_indexOfSupplementary_4cfef 69 = .ok (.iconst (-1), 1) := by decide +kernel
theorem dJ2_indexOfSupplementary_4cfef_70 : decode cJ2_indexOfSupplementary_4cfef 70 = .ok (.ireturn, 1) := by decide +kernel
theorem dJ2_charAt_3b067_0 : decode cJ2_charAt_3b067 0 = .ok (.iload_n 1, 1) := by decide +kernel
theorem dJ2_charAt_3b067_1 : decode cJ2_charAt_3b067 1 = .ok (.aload_n 0, 1) := by decide +kernel
theorem dJ2_charAt_3b067_2 : decode cJ2_charAt_3b067 2 = .ok (.invokestatic 67, 3) := by decide +kernel
theorem dJ2_charAt_3b067_5 : decode cJ2_charAt_3b067 5 = .ok (.aload_n 0, 1) := by decide +kernel
theorem dJ2_charAt_3b067_6 : decode cJ2_charAt_3b067 6 = .ok (.iload_n 1, 1) := by decide +kernel
theorem dJ2_charAt_3b067_7 : decode cJ2_charAt_3b067 7 = .ok (.invokestatic 71, 3) := by decide +kernel
theorem dJ2_charAt_3b067_10 : decode cJ2_charAt_3b067 10 = .ok (.ireturn, 1) := by decide +kernel
theorem dJ2_checkIndex_2214a_0 : decode cJ2_checkIndex_2214a 0 = .ok (.iload_n 0, 1) := by decide +kernel
theorem dJ2_checkIndex_2214a_1 : decode cJ2_checkIndex_2214a 1 = .ok (.aload_n 1, 1) := by decide +kernel
theorem dJ2_checkIndex_2214a_2 : decode cJ2_checkIndex_2214a 2 = .ok (.invokestatic 48, 3) := by decide +kernel
theorem dJ2_checkIndex_2214a_5 : decode cJ2_checkIndex_2214a 5 = .ok (.invokestatic 414, 3) := by decide +kernel
theorem dJ2_checkIndex_2214a_8 : decode cJ2_checkIndex_2214a 8 = .ok (.return_, 1) := by decide +kernel
theorem dJ2_checkBoundsBeginEnd_d044e_0 : decode cJ2_checkBoundsBeginEnd_d044e 0 = .ok (.iload_n 0, 1) := by decide +kernel
theorem dJ2_checkBoundsBeginEnd_d044e_1 : decode cJ2_checkBoundsBeginEnd_d044e 1 = .ok (.iload_n 1, 1) := by decide +kernel
theorem dJ2_checkBoundsBeginEnd_d044e_2 : decode cJ2_checkBoundsBeginEnd_d044e 2 = .ok (.aload_n 2, 1) := by decide +kernel
theorem dJ2_checkBoundsBeginEnd_d044e_3 : decode cJ2_checkBoundsBeginEnd_d044e 3 = .ok (.invokestatic 48, 3) := by decide +kernel
theorem dJ2_checkBoundsBeginEnd_d044e_6 : decode cJ2_checkBoundsBeginEnd_d044e 6 = .ok (.invokestatic 241, 3) := by decide +kernel
theorem dJ2_checkBoundsBeginEnd_d044e_9 : decode cJ2_checkBoundsBeginEnd_d044e 9 = .ok (.return_, 1) := by decide +kernel
theorem dJ3_checkIndex_8e157_0 : decode cJ3_checkIndex_8e157 0 = .ok (.iload_n 0, 1) := by decide +kernel
theorem dJ3_checkIndex_8e157_1 : decode cJ3_checkIndex_8e157 1 = .ok (.ifCond .lt 8, 3) := by decide +kernel
theorem dJ3_checkIndex_8e157_4 : decode cJ3_checkIndex_8e157 4 = .ok (.iload_n 0, 1) := by decide +kernel
theorem dJ3_checkIndex_8e157_5 : decode cJ3_checkIndex_8e157 5 = .ok (.iload_n 1, 1) := by decide +kernel
theorem dJ3_checkIndex_8e157_6 : decode cJ3_checkIndex_8e157 6 = .ok (.if_icmp .lt 10, 3) := by decide +kernel
theorem dJ3_checkIndex_8e157_9 : decode cJ3_checkIndex_8e157 9 = .ok (.aload_n 2, 1) := by decide +kernel
theorem dJ3_checkIndex_8e157_10 : decode cJ3_checkIndex_8e157 10 = .ok (.iload_n 0, 1) := by decide +kernel
theorem dJ3_checkIndex_8e157_11 : decode cJ3_checkIndex_8e157 11 = .ok (.iload_n 1, 1) := by decide +kernel
theorem dJ3_checkIndex_8e157_12 : decode cJ3_checkIndex_8e157 12 = .ok (.invokestatic 95, 3) := by decide +kernel
theorem dJ3_checkIndex_8e157_15 : decode cJ3_checkIndex_8e157 15 = .ok (.athrow, 1) := by decide +kernel
theorem dJ3_checkIndex_8e157_16 : decode cJ3_checkIndex_8e157 16 = .ok (.iload_n 0, 1) := by decide +kernel
theorem dJ3_checkIndex_8e157_17 : decode cJ3_checkIndex_8e157 17 = .ok (.ireturn, 1) := by decide +kernel
theorem dJ3_checkFromToIndex_8c36e_0 : decode cJ3_checkFromToIndex_8c36e 0 = .ok (.iload_n 0, 1) := by decide +kernel
theorem dJ3_checkFromToIndex_8c36e_1 : decode cJ3_checkFromToIndex_8c36e 1 = .ok (.ifCond .lt 13, 3) := by decide +kernel
theorem dJ3_checkFromToIndex_8c36e_4 : decode cJ3_checkFromToIndex_8c36e 4 = .ok (.iload_n 0, 1) := by decide +kernel
theorem dJ3_checkFromToIndex_8c36e_5 : decode cJ3_checkFromToIndex_8c36e 5 = .ok (.iload_n 1, 1) := by decide +kernel
theorem dJ3_checkFromToIndex_8c36e_6 : decode cJ3_checkFromToIndex_8c36e 6 = .ok (.if_icmp .gt 8, 3) := by decide +kernel
theorem dJ3_checkFromToIndex_8c36e_9 : decode cJ3_checkFromToIndex_8c36e 9 = .ok (.iload_n 1, 1) := by decide +kernel
theorem dJ3_checkFromToIndex_8c36e_10 : decode cJ3_checkFromToIndex_8c36e 10 = .ok (.iload_n 2, 1) := by decide +kernel
theorem dJ3_checkFromToIndex_8c36e_11 : decode cJ3_checkFromToIndex_8c36e 11 = .ok (.if_icmp .le 11, 3) := by decide +kernel
theorem dJ3_checkFromToIndex_8c36e_14 : decode cJ3_checkFromToIndex_8c36e 14 = .ok (.aload_n 3, 1) := by decide +kernel
theorem dJ3_checkFromToIndex_8c36e_15 : decode cJ3_checkFromToIndex_8c36e 15 = .ok (.iload_n 0, 1) := by decide +kernel
theorem dJ3_checkFromToIndex_8c36e_16 : decode cJ3_checkFromToIndex_8c36e 16 = .ok (.iload_n 1, 1) := by decide +kernel
theorem dJ3_checkFromToIndex_8c36e_17 : decode cJ3_checkFromToIndex_8c36e 17 = .ok (.iload_n 2, 1) := by decide +kernel
theorem dJ3_checkFromToIndex_8c36e_18 : decode cJ3_checkFromToIndex_8c36e 18 = .ok (.invokestatic 99, 3) := by decide +kernel
theorem dJ3_checkFromToIndex_8c36e_21 : decode cJ3_checkFromToIndex_8c36e 21 = .ok (.athrow, 1) := by decide +kernel
theorem dJ3_checkFromToIndex_8c36e_22 : decode cJ3_checkFromToIndex_8c36e 22 = .ok (.iload_n 0, 1) := by decide +kernel
theorem dJ3_checkFromToIndex_8c36e_23 : decode cJ3_checkFromToIndex_8c36e 23 = .ok (.ireturn, 1) := by decide +kernel
theorem dJ11_isValidCodePoint_9a6ad_0 : decode cJ11_isValidCodePoint_9a6ad 0 = .ok (.iload_n 0, 1) := by decide +kernel
theorem dJ11_isValidCodePoint_9a6ad_1 : decode cJ11_isValidCodePoint_9a6ad 1 = .ok (.bipush 16, 2) := by decide +kernel
theorem dJ11_isValidCodePoint_9a6ad_3 : decode cJ11_isValidCodePoint_9a6ad 3 = .ok (.iushr, 1) := by decide +kernel
theorem dJ11_isValidCodePoint_9a6ad_4 : decode cJ11_isValidCodePoint_9a6ad 4 = .ok (.istore_n 1, 1) := by decide +kernel
theorem dJ11_isValidCodePoint_9a6ad_5 : decode cJ11_isValidCodePoint_9a6ad 5 = .ok (.iload_n 1, 1) := by decide +kernel
theorem dJ11_isValidCodePoint_9a6ad_6 : decode cJ11_isValidCodePoint_9a6ad 6 = .ok (.bipush 17, 2) := by decide +kernel
theorem dJ11_isValidCodePoint_9a6ad_8 : decode cJ11_isValidCodePoint_9a6ad 8 = .ok (.if_icmp .ge 7, 3) := by decide +kernel
theorem dJ11_isValidCodePoint_9a6ad_11 : decode cJ11_isValidCodePoint_9a6ad 11 = .ok (.iconst 1, 1) := by decide +kernel
theorem dJ11_isValidCodePoint_9a6ad_12 : decode cJ11_isValidCodePoint_9a6ad 12 = .ok (.goto 4, 3) := by decide +kernel
theorem dJ11_isValidCodePoint_9a6ad_15 : decode cJ11_isValidCodePoint_9a6ad 15 = .ok (.iconst 0, 1) := by decide +kernel
theorem dJ11_isValidCodePoint_9a6ad_16 : decode cJ11_isValidCodePoint_9a6ad 16 = .ok (.ireturn, 1) := by decide +kernel
theorem dJ11_highSurrogate_5068e_0 : decode cJ11_highSurrogate_5068e 0 = .ok (.iload_n 0, 1) := by decide +kernel
theorem dJ11_highSurrogate_5068e_1 : decode cJ11_highSurrogate_5068e 1 = .ok (.bipush 10, 2) := by decide +kernel
theorem dJ11_highSurrogate_5068e_3 : decode cJ11_highSurrogate_5068e 3 = .ok (.iushr, 1) := by decide +kernel
theorem dJ11_highSurrogate_5068e_4 : decode cJ11_highSurrogate_5068e 4 = .ok (.ldc 110, 2) := by decide +kernel
theorem dJ11_highSurrogate_5068e_6 : decode cJ11_highSurrogate_5068e 6 = .ok (.iadd, 1) := by decide +kernel
theorem dJ11_highSurrogate_5068e_7 : decode cJ11_highSurrogate_5068e 7 = .ok (.i2c, 1) := by decide +kernel
theorem dJ11_highSurrogate_5068e_8 : decode cJ11_highSurrogate_5068e 8 = .ok (.ireturn, 1) := by decide +kernel
theorem dJ11_lowSurrogate_5068e_0 : decode cJ11_lowSurrogate_5068e 0 = .ok (.iload_n 0, 1) := by decide +kernel
theorem dJ11_lowSurrogate_5068e_1 : decode cJ11_lowSurrogate_5068e 1 = .ok (.sipush 1023, 3) := by decide +kernel
theorem dJ11_lowSurrogate_5068e_4 : decode cJ11_lowSurrogate_5068e 4 = .ok (.iand, 1) := by decide +kernel
theorem dJ11_lowSurrogate_5068e_5 : decode cJ11_lowSurrogate_5068e 5 = .ok (.ldc 76, 2) := by decide +kernel
theorem dJ11_lowSurrogate_5068e_7 : decode cJ11_lowSurrogate_5068e 7 = .ok (.iadd, 1) := by decide +kernel
theorem dJ11_lowSurrogate_5068e_8 : decode cJ11_lowSurrogate_5068e 8 = .ok (.i2c, 1) := by decide +kernel
theorem dJ11_lowSurrogate_5068e_9 : decode cJ11_lowSurrogate_5068e 9 = .ok (.ireturn, 1) := by decide +kernel
theorem dL_law_0 : decode cL_law 0 = .ok (.new 7, 3) := by decide +kernel
theorem dL_law_3 : decode cL_law 3 = .ok (.dup, 1) := by decide +kernel
theorem dL_law_4 : decode cL_law 4 = .ok (.invokespecial 9, 3) := by decide +kernel
theorem dL_law_7 : decode cL_law 7 = .ok (.astore_n 1, 1) := by decide +kernel
theorem dL_law_8 : decode cL_law 8 = .ok (.new 10, 3) := by decide +kernel
theorem dL_law_11 : decode cL_law 11 = .ok (.dup, 1) := by decide +kernel
theorem dL_law_12 : decode cL_law 12 = .ok (.invokespecial 12, 3) := by decide +kernel
theorem dL_law_15 : decode cL_law 15 = .ok (.astore_n 2, 1) := by decide +kernel
theorem dL_law_16 : decode cL_law 16 = .ok (.iconst 0, 1) := by decide +kernel
theorem dL_law_17 : decode cL_law 17 = .ok (.istore_n 3, 1) := by decide +kernel
theorem dL_law_18 : decode cL_law 18 = .ok (.iload_n 3, 1) := by decide +kernel
theorem dL_law_19 : decode cL_law 19 = .ok (.aload_n 0, 1) := by decide +kernel
theorem dL_law_20 : decode cL_law 20 = .ok (.arraylength, 1) := by decide +kernel
theorem dL_law_21 : decode cL_law 21 = .ok (.bipush 6, 2) := by decide +kernel
theorem dL_law_23 : decode cL_law 23 = .ok (.isub, 1) := by decide +kernel
theorem dL_law_24 : decode cL_law 24 = .ok (.if_icmp .gt 1374, 3) := by decide +kernel
theorem dL_law_27 : decode cL_law 27 = .ok (.aload_n 0, 1) := by decide +kernel
theorem dL_law_28 : decode cL_law 28 = .ok (.iload_n 3, 1) := by decide +kernel
theorem dL_law_29 : decode cL_law 29 = .ok (.iaload, 1) := by decide +kernel
theorem dL_law_30 : decode cL_law 30 = .ok (.bipush 63, 2) := by decide +kernel
theorem dL_law_32 : decode cL_law 32 = .ok (.iand, 1) := by decide +kernel
theorem dL_law_33 : decode cL_law 33 = .ok (.tableswitch 1359 0 41 #[183, 226, 249, 282, 315, 348, 381, 404, 427, 460, 493, 516, 539, 562, 585, 608, 631, 654, 687, 700, 733, 756, 769, 792, 835, 858, 871, 904, 927, 970, 1013, 1036, 1059, 1122, 1165, 1198, 1231, 1264, 1287, 1310, 1323, 1336], 183) := by decide +kernel
theorem dL_law_216 : decode cL_law 216 = .ok (.aload_n 1, 1) := by decide +kernel
theorem dL_law_217 : decode cL_law 217 = .ok (.aload_n 0, 1) := by decide +kernel
theorem dL_law_218 : decode cL_law 218 = .ok (.iload_n 3, 1) := by decide +kernel
theorem dL_law_219 : decode cL_law 219 = .ok (.iconst 1, 1) := by decide +kernel
theorem dL_law_220 : decode cL_law 220 = .ok (.iadd, 1) := by decide +kernel
theorem dL_law_221 : decode cL_law 221 = .ok (.iaload, 1) := by decide +kernel
theorem dL_law_222 : decode cL_law 222 = .ok (.aload_n 0, 1) := by decide +kernel
theorem dL_law_223 : decode cL_law 223 = .ok (.iload_n 3, 1) := by decide +kernel
theorem dL_law_224 : decode cL_law 224 = .ok (.iconst 2, 1) := by decide +kernel
theorem dL_law_225 : decode cL_law 225 = .ok (.iadd, 1) := by decide +kernel
theorem dL_law_226 : decode cL_law 226 = .ok (.iaload, 1) := by decide +kernel
theorem dL_law_227 : decode cL_law 227 = .ok (.aload_n 0, 1) := by decide +kernel
theorem dL_law_228 : decode cL_law 228 = .ok (.iload_n 3, 1) := by decide +kernel
theorem dL_law_229 : decode cL_law 229 = .ok (.iconst 3, 1) := by decide +kernel
theorem dL_law_230 : decode cL_law 230 = .ok (.iadd, 1) := by decide +kernel
theorem dL_law_231 : decode cL_law 231 = .ok (.iaload, 1) := by decide +kernel
theorem dL_law_232 : decode cL_law 232 = .ok (.invokevirtual 13, 3) := by decide +kernel
theorem dL_law_235 : decode cL_law 235 = .ok (.aload_n 2, 1) := by decide +kernel
theorem dL_law_236 : decode cL_law 236 = .ok (.aload_n 0, 1) := by decide +kernel
theorem dL_law_237 : decode cL_law 237 = .ok (.iload_n 3, 1) := by decide +kernel
theorem dL_law_238 : decode cL_law 238 = .ok (.iconst 1, 1) := by decide +kernel
theorem dL_law_239 : decode cL_law 239 = .ok (.iadd, 1) := by decide +kernel
theorem dL_law_240 : decode cL_law 240 = .ok (.iaload, 1) := by decide +kernel
theorem dL_law_241 : decode cL_law 241 = .ok (.aload_n 0, 1) := by decide +kernel
theorem dL_law_242 : decode cL_law 242 = .ok (.iload_n 3, 1) := by decide +kernel
theorem dL_law_243 : decode cL_law 243 = .ok (.iconst 2, 1) := by decide +kernel
theorem dL_law_244 : decode cL_law 244 = .ok (.iadd, 1) := by decide +kernel
theorem dL_law_245 : decode cL_law 245 = .ok (.iaload, 1) := by decide +kernel
theorem dL_law_246 : decode cL_law 246 = .ok (.aload_n 0, 1) := by decide +kernel
theorem dL_law_247 : decode cL_law 247 = .ok (.iload_n 3, 1) := by decide +kernel
theorem dL_law_248 : decode cL_law 248 = .ok (.iconst 3, 1) := by decide +kernel
theorem dL_law_249 : decode cL_law 249 = .ok (.iadd, 1) := by decide +kernel
theorem dL_law_250 : decode cL_law 250 = .ok (.iaload, 1) := by decide +kernel
theorem dL_law_251 : decode cL_law 251 = .ok (.invokevirtual 17, 3) := by decide +kernel
theorem dL_law_254 : decode cL_law 254 = .ok (.if_icmp .eq 1138, 3) := by decide +kernel
theorem dL_law_257 : decode cL_law 257 = .ok (.iconst 0, 1) := by decide +kernel
theorem dL_law_258 : decode cL_law 258 = .ok (.ireturn, 1) := by decide +kernel
theorem dL_law_259 : decode cL_law 259 = .ok (.aload_n 1, 1) := by decide +kernel
theorem dL_law_260 : decode cL_law 260 = .ok (.aload_n 0, 1) := by decide +kernel
theorem dL_law_261 : decode cL_law 261 = .ok (.iload_n 3, 1) := by decide +kernel
theorem dL_law_262 : decode cL_law 262 = .ok (.iconst 1, 1) := by decide +kernel
theorem dL_law_263 : decode cL_law 263 = .ok (.iadd, 1) := by decide +kernel
theorem dL_law_264 : decode cL_law 264 = .ok (.iaload, 1) := by decide +kernel
theorem dL_law_265 : decode cL_law 265 = .ok (.invokevirtual 18, 3) := by decide +kernel
theorem dL_law_268 : decode cL_law 268 = .ok (.aload_n 2, 1) := by decide +kernel
theorem dL_law_269 : decode cL_law 269 = .ok (.aload_n 0, 1) := by decide +kernel
theorem dL_law_270 : decode cL_law 270 = .ok (.iload_n 3, 1) := by decide +kernel
theorem dL_law_271 : decode cL_law 271 = .ok (.iconst 1, 1) := by decide +kernel
theorem dL_law_272 : decode cL_law 272 = .ok (.iadd, 1) := by decide +kernel
theorem dL_law_273 : decode cL_law 273 = .ok (.iaload, 1) := by decide +kernel
theorem dL_law_274 : decode cL_law 274 = .ok (.invokevirtual 22, 3) := by decide +kernel
theorem dL_law_277 : decode cL_law 277 = .ok (.if_icmp .eq 1115, 3) := by decide +kernel
theorem dL_law_280 : decode cL_law 280 = .ok (.iconst 0, 1) := by decide +kernel
theorem dL_law_281 : decode cL_law 281 = .ok (.ireturn, 1) := by decide +kernel
theorem dL_law_282 : decode cL_law 282 = .ok (.aload_n 1, 1) := by decide +kernel
theorem dL_law_283 : decode cL_law 283 = .ok (.aload_n 0, 1) := by decide +kernel
theorem dL_law_284 : decode cL_law 284 = .ok (.iload_n 3, 1) := by decide +kernel
theorem dL_law_285 : decode cL_law 285 = .ok (.iconst 1, 1) := by decide +kernel
theorem dL_law_286 : decode cL_law 286 = .ok (.iadd, 1) := by decide +kernel
theorem dL_law_287 : decode cL_law 287 = .ok (.iaload, 1) := by decide +kernel
theorem dL_law_288 : decode cL_law 288 = .ok (.aload_n 0, 1) := by decide +kernel
theorem dL_law_289 : decode cL_law 289 = .ok (.iload_n 3, 1) := by decide +kernel
theorem dL_law_290 : decode cL_law 290 = .ok (.iconst 2, 1) := by decide +kernel
theorem dL_law_291 : decode cL_law 291 = .ok (.iadd, 1) := by decide +kernel
theorem dL_law_292 : decode cL_law 292 = .ok (.iaload, 1) := by decide +kernel
theorem dL_law_293 : decode cL_law 293 = .ok (.invokevirtual 23, 3) := by decide +kernel
theorem dL_law_296 : decode cL_law 296 = .ok (.aload_n 2, 1) := by decide +kernel
theorem dL_law_297 : decode cL_law 297 = .ok (.aload_n 0, 1) := by decide +kernel
theorem dL_law_298 : decode cL_law 298 = .ok (.iload_n 3, 1) := by decide +kernel
theorem dL_law_299 : decode cL_law 299 = .ok (.iconst 1, 1) := by decide +kernel
theorem dL_law_300 : decode cL_law 300 = .ok (.iadd, 1) := by decide +kernel
theorem dL_law_301 : decode cL_law 301 = .ok (.iaload, 1) := by decide +kernel
theorem dL_law_302 : decode cL_law 302 = .ok (.aload_n 0, 1) := by decide +kernel
theorem dL_law_303 : decode cL_law 303 = .ok (.iload_n 3, 1) := by decide +kernel
theorem dL_law_304 : decode cL_law 304 = .ok (.iconst 2, 1) := by decide +kernel
theorem dL_law_305 : decode cL_law 305 = .ok (.iadd, 1) := by decide +kernel
theorem dL_law_306 : decode cL_law 306 = .ok (.iaload, 1) := by decide +kernel
theorem dL_law_307 : decode cL_law 307 = .ok (.invokevirtual 27, 3) := by decide +kernel
theorem dL_law_310 : decode cL_law 310 = .ok (.if_icmp .eq 1082, 3) := by decide +kernel
theorem dL_law_313 : decode cL_law 313 = .ok (.iconst 0, 1) := by decide +kernel
theorem dL_law_314 : decode cL_law 314 = .ok (.ireturn, 1) := by decide +kernel
theorem dL_law_315 : decode cL_law 315 = .ok (.aload_n 1, 1) := by decide +kernel
theorem dL_law_316 : decode cL_law 316 = .ok (.aload_n 0, 1) := by decide +kernel
theorem dL_law_317 : decode cL_law 317 = .ok (.iload_n 3, 1) := by decide +kernel
theorem dL_law_318 : decode cL_law 318 = .ok (.iconst 1, 1) := by decide +kernel
theorem dL_law_319 : decode cL_law 319 = .ok (.iadd, 1) := by decide +kernel
theorem dL_law_320 : decode cL_law 320 = .ok (.iaload, 1) := by decide +kernel
theorem dL_law_321 : decode cL_law 321 = .ok (.aload_n 0, 1) := by decide +kernel
theorem dL_law_322 : decode cL_law 322 = .ok (.iload_n 3, 1) := by decide +kernel
theorem dL_law_323 : decode cL_law 323 = .ok (.iconst 2, 1) := by decide +kernel
theorem dL_law_324 : decode cL_law 324 = .ok (.iadd, 1) := by decide +kernel
theorem dL_law_325 : decode cL_law 325 = .ok (.iaload, 1) := by decide +kernel
theorem dL_law_326 : decode cL_law 326 = .ok (.invokevirtual 28, 3) := by decide +kernel
theorem dL_law_329 : decode cL_law 329 = .ok (.aload_n 2, 1) := by decide +kernel
theorem dL_law_330 : decode cL_law 330 = .ok (.aload_n 0, 1) := by decide +kernel
theorem dL_law_331 : decode cL_law 331 = .ok (.iload_n 3, 1) := by decide +kernel
theorem dL_law_332 : decode cL_law 332 = .ok (.iconst 1, 1) := by decide +kernel
theorem dL_law_333 : decode cL_law 333 = .ok (.iadd, 1) := by decide +kernel
theorem dL_law_334 : decode cL_law 334 = .ok (.iaload, 1) := by decide +kernel
theorem dL_law_335 : decode cL_law 335 = .ok (.aload_n 0, 1) := by decide +kernel
theorem dL_law_336 : decode cL_law 336 = .ok (.iload_n 3, 1) := by decide +kernel
theorem dL_law_337 : decode cL_law 337 = .ok (.iconst 2, 1) := by decide +kernel
theorem dL_law_338 : decode cL_law 338 = .ok (.iadd, 1) := by decide +kernel
theorem dL_law_339 : decode cL_law 339 = .ok (.iaload, 1) := by decide +kernel
theorem dL_law_340 : decode cL_law 340 = .ok (.invokevirtual 31, 3) := by decide +kernel
theorem dL_law_343 : decode cL_law 343 = .ok (.if_icmp .eq 1049, 3) := by decide +kernel
theorem dL_law_346 : decode cL_law 346 = .ok (.iconst 0, 1) := by decide +kernel
theorem dL_law_347 : decode cL_law 347 = .ok (.ireturn, 1) := by decide +kernel
theorem dL_law_348 : decode cL_law 348 = .ok (.aload_n 1, 1) := by decide +kernel
theorem dL_law_349 : decode cL_law 349 = .ok (.aload_n 0, 1) := by decide +kernel
theorem dL_law_350 : decode cL_law 350 = .ok (.iload_n 3, 1) := by decide +kernel
theorem dL_law_351 : decode cL_law 351 = .ok (.iconst 1, 1) := by decide +kernel
theorem dL_law_352 : decode cL_law 352 = .ok (.iadd, 1) := by decide +kernel
theorem dL_law_353 : decode cL_law 353 = .ok (.iaload, 1) := by decide +kernel
theorem dL_law_354 : decode cL_law 354 = .ok (.aload_n 0, 1) := by decide +kernel
theorem dL_law_355 : decode cL_law 355 = .ok (.iload_n 3, 1) := by decide +kernel
theorem dL_law_356 : decode cL_law 356 = .ok (.iconst 2, 1) := by decide +kernel
theorem dL_law_357 : decode cL_law 357 = .ok (.iadd, 1) := by decide +kernel
theorem dL_law_358 : decode cL_law 358 = .ok (.iaload, 1) := by decide +kernel
theorem dL_law_359 : decode cL_law 359 = .ok (.invokevirtual 32, 3) := by decide +kernel
theorem dL_law_362 : decode cL_law 362 = .ok (.aload_n 2, 1) := by decide +kernel
theorem dL_law_363 : decode cL_law 363 = .ok (.aload_n 0, 1) := by decide +kernel
theorem dL_law_364 : decode cL_law 364 = .ok (.iload_n 3, 1) := by decide +kernel
theorem dL_law_365 : decode cL_law 365 = .ok (.iconst 1, 1) := by decide +kernel
theorem dL_law_366 : decode cL_law 366 = .ok (.iadd, 1) := by decide +kernel
theorem dL_law_367 : decode cL_law 367 = .ok (.iaload, 1) := by decide +kernel
theorem dL_law_368 : decode cL_law 368 = .ok (.aload_n 0, 1) := by decide +kernel
theorem dL_law_369 : decode cL_law 369 = .ok (.iload_n 3, 1) := by decide +kernel
theorem dL_law_370 : decode cL_law 370 = .ok (.iconst 2, 1) := by decide +kernel
theorem dL_law_371 : decode cL_law 371 = .ok (.iadd, 1) := by decide +kernel
theorem dL_law_372 : decode cL_law 372 = .ok (.iaload, 1) := by decide +kernel
theorem dL_law_373 : decode cL_law 373 = .ok (.invokevirtual 35, 3) := by decide +kernel
theorem dL_law_376 : decode cL_law 376 = .ok (.if_icmp .eq 1016, 3) := by decide +kernel
theorem dL_law_379 : decode cL_law 379 = .ok (.iconst 0, 1) := by decide +kernel
theorem dL_law_380 : decode cL_law 380 = .ok (.ireturn, 1) := by decide +kernel
theorem dL_law_381 : decode cL_law 381 = .ok (.aload_n 1, 1) := by decide +kernel
theorem dL_law_382 : decode cL_law 382 = .ok (.aload_n 0, 1) := by decide +kernel
theorem dL_law_383 : decode cL_law 383 = .ok (.iload_n 3, 1) := by decide +kernel
theorem dL_law_384 : decode cL_law 384 = .ok (.iconst 1, 1) := by decide +kernel
theorem dL_law_385 : decode cL_law 385 = .ok (.iadd, 1) := by decide +kernel
theorem dL_law_386 : decode cL_law 386 = .ok (.iaload, 1) := by decide +kernel
theorem dL_law_387 : decode cL_law 387 = .ok (.aload_n 0, 1) := by decide +kernel
theorem dL_law_388 : decode cL_law 388 = .ok (.iload_n 3, 1) := by decide +kernel
theorem dL_law_389 : decode cL_law 389 = .ok (.iconst 2, 1) := by decide +kernel
theorem dL_law_390 : decode cL_law 390 = .ok (.iadd, 1) := by decide +kernel
theorem dL_law_391 : decode cL_law 391 = .ok (.iaload, 1) := by decide +kernel
theorem dL_law_392 : decode cL_law 392 = .ok (.invokevirtual 36, 3) := by decide +kernel
theorem dL_law_395 : decode cL_law 395 = .ok (.aload_n 2, 1) := by decide +kernel
theorem dL_law_396 : decode cL_law 396 = .ok (.aload_n 0, 1) := by decide +kernel
theorem dL_law_397 : decode cL_law 397 = .ok (.iload_n 3, 1) := by decide +kernel
theorem dL_law_398 : decode cL_law 398 = .ok (.iconst 1, 1) := by decide +kernel
theorem dL_law_399 : decode cL_law 399 = .ok (.iadd, 1) := by decide +kernel
theorem dL_law_400 : decode cL_law 400 = .ok (.iaload, 1) := by decide +kernel
theorem dL_law_401 : decode cL_law 401 = .ok (.aload_n 0, 1) := by decide +kernel
theorem dL_law_402 : decode cL_law 402 = .ok (.iload_n 3, 1) := by decide +kernel
theorem dL_law_403 : decode cL_law 403 = .ok (.iconst 2, 1) := by decide +kernel
theorem dL_law_404 : decode cL_law 404 = .ok (.iadd, 1) := by decide +kernel
theorem dL_law_405 : decode cL_law 405 = .ok (.iaload, 1) := by decide +kernel
theorem dL_law_406 : decode cL_law 406 = .ok (.invokevirtual 39, 3) := by decide +kernel
theorem dL_law_409 : decode cL_law 409 = .ok (.if_icmp .eq 983, 3) := by decide +kernel
theorem dL_law_412 : decode cL_law 412 = .ok (.iconst 0, 1) := by decide +kernel
theorem dL_law_413 : decode cL_law 413 = .ok (.ireturn, 1) := by decide +kernel
theorem dL_law_414 : decode cL_law 414 = .ok (.aload_n 1, 1) := by decide +kernel
theorem dL_law_415 : decode cL_law 415 = .ok (.aload_n 0, 1) := by decide +kernel
theorem dL_law_416 : decode cL_law 416 = .ok (.iload_n 3, 1) := by decide +kernel
theorem dL_law_417 : decode cL_law 417 = .ok (.iconst 1, 1) := by decide +kernel
theorem dL_law_418 : decode cL_law 418 = .ok (.iadd, 1) := by decide +kernel
theorem dL_law_419 : decode cL_law 419 = .ok (.iaload, 1) := by decide +kernel
theorem dL_law_420 : decode cL_law 420 = .ok (.invokevirtual 40, 3) := by decide +kernel
theorem dL_law_423 : decode cL_law 423 = .ok (.aload_n 2, 1) := by decide +kernel
theorem dL_law_424 : decode cL_law 424 = .ok (.aload_n 0, 1) := by decide +kernel
theorem dL_law_425 : decode cL_law 425 = .ok (.iload_n 3, 1) := by decide +kernel
theorem dL_law_426 : decode cL_law 426 = .ok (.iconst 1, 1) := by decide +kernel
theorem dL_law_427 : decode cL_law 427 = .ok (.iadd, 1) := by decide +kernel
theorem dL_law_428 : decode cL_law 428 = .ok (.iaload, 1) := by decide +kernel
theorem dL_law_429 : decode cL_law 429 = .ok (.invokevirtual 43, 3) := by decide +kernel
theorem dL_law_432 : decode cL_law 432 = .ok (.if_icmp .eq 960, 3) := by decide +kernel
theorem dL_law_435 : decode cL_law 435 = .ok (.iconst 0, 1) := by decide +kernel
theorem dL_law_436 : decode cL_law 436 = .ok (.ireturn, 1) := by decide +kernel
theorem dL_law_437 : decode cL_law 437 = .ok (.aload_n 1, 1) := by decide +kernel
theorem dL_law_438 : decode cL_law 438 = .ok (.aload_n 0, 1) := by decide +kernel
theorem dL_law_439 : decode cL_law 439 = .ok (.iload_n 3, 1) := by decide +kernel
theorem dL_law_440 : decode cL_law 440 = .ok (.iconst 1, 1) := by decide +kernel
theorem dL_law_441 : decode cL_law 441 = .ok (.iadd, 1) := by decide +kernel
theorem dL_law_442 : decode cL_law 442 = .ok (.iaload, 1) := by decide +kernel
theorem dL_law_443 : decode cL_law 443 = .ok (.invokevirtual 44, 3) := by decide +kernel
theorem dL_law_446 : decode cL_law 446 = .ok (.aload_n 2, 1) := by decide +kernel
theorem dL_law_447 : decode cL_law 447 = .ok (.aload_n 0, 1) := by decide +kernel
theorem dL_law_448 : decode cL_law 448 = .ok (.iload_n 3, 1) := by decide +kernel
theorem dL_law_449 : decode cL_law 449 = .ok (.iconst 1, 1) := by decide +kernel
theorem dL_law_450 : decode cL_law 450 = .ok (.iadd, 1) := by decide +kernel
theorem dL_law_451 : decode cL_law 451 = .ok (.iaload, 1) := by decide +kernel
theorem dL_law_452 : decode cL_law 452 = .ok (.invokevirtual 47, 3) := by decide +kernel
theorem dL_law_455 : decode cL_law 455 = .ok (.if_icmp .eq 937, 3) := by decide +kernel
theorem dL_law_458 : decode cL_law 458 = .ok (.iconst 0, 1) := by decide +kernel
theorem dL_law_459 : decode cL_law 459 = .ok (.ireturn, 1) := by decide +kernel
theorem dL_law_460 : decode cL_law 460 = .ok (.aload_n 1, 1) := by decide +kernel
theorem dL_law_461 : decode cL_law 461 = .ok (.aload_n 0, 1) := by decide +kernel
theorem dL_law_462 : decode cL_law 462 = .ok (.iload_n 3, 1) := by decide +kernel
theorem dL_law_463 : decode cL_law 463 = .ok (.iconst 1, 1) := by decide +kernel
theorem dL_law_464 : decode cL_law 464 = .ok (.iadd, 1) := by decide +kernel
theorem dL_law_465 : decode cL_law 465 = .ok (.iaload, 1) := by decide +kernel
theorem dL_law_466 : decode cL_law 466 = .ok (.aload_n 0, 1) := by decide +kernel
theorem dL_law_467 : decode cL_law 467 = .ok (.iload_n 3, 1) := by decide +kernel
theorem dL_law_468 : decode cL_law 468 = .ok (.iconst 2, 1) := by decide +kernel
theorem dL_law_469 : decode cL_law 469 = .ok (.iadd, 1) := by decide +kernel
theorem dL_law_470 : decode cL_law 470 = .ok (.iaload, 1) := by decide +kernel
theorem dL_law_471 : decode cL_law 471 = .ok (.invokevirtual 48, 3) := by decide +kernel
theorem dL_law_474 : decode cL_law 474 = .ok (.aload_n 2, 1) := by decide +kernel
theorem dL_law_475 : decode cL_law 475 = .ok (.aload_n 0, 1) := by decide +kernel
theorem dL_law_476 : decode cL_law 476 = .ok (.iload_n 3, 1) := by decide +kernel
theorem dL_law_477 : decode cL_law 477 = .ok (.iconst 1, 1) := by decide +kernel
theorem dL_law_478 : decode cL_law 478 = .ok (.iadd, 1) := by decide +kernel
theorem dL_law_479 : decode cL_law 479 = .ok (.iaload, 1) := by decide +kernel
theorem dL_law_480 : decode cL_law 480 = .ok (.aload_n 0, 1) := by decide +kernel
theorem dL_law_481 : decode cL_law 481 = .ok (.iload_n 3, 1) := by decide +kernel
theorem dL_law_482 : decode cL_law 482 = .ok (.iconst 2, 1) := by decide +kernel
theorem dL_law_483 : decode cL_law 483 = .ok (.iadd, 1) := by decide +kernel
theorem dL_law_484 : decode cL_law 484 = .ok (.iaload, 1) := by decide +kernel
theorem dL_law_485 : decode cL_law 485 = .ok (.invokevirtual 51, 3) := by decide +kernel
theorem dL_law_488 : decode cL_law 488 = .ok (.if_icmp .eq 904, 3) := by decide +kernel
theorem dL_law_491 : decode cL_law 491 = .ok (.iconst 0, 1) := by decide +kernel
theorem dL_law_492 : decode cL_law 492 = .ok (.ireturn, 1) := by decide +kernel
theorem dL_law_493 : decode cL_law 493 = .ok (.aload_n 1, 1) := by decide +kernel
theorem dL_law_494 : decode cL_law 494 = .ok (.aload_n 0, 1) := by decide +kernel
theorem dL_law_495 : decode cL_law 495 = .ok (.iload_n 3, 1) := by decide +kernel
theorem dL_law_496 : decode cL_law 496 = .ok (.iconst 1, 1) := by decide +kernel
theorem dL_law_497 : decode cL_law 497 = .ok (.iadd, 1) := by decide +kernel
theorem dL_law_498 : decode cL_law 498 = .ok (.iaload, 1) := by decide +kernel
theorem dL_law_499 : decode cL_law 499 = .ok (.aload_n 0, 1) := by decide +kernel
theorem dL_law_500 : decode cL_law 500 = .ok (.iload_n 3, 1) := by decide +kernel
theorem dL_law_501 : decode cL_law 501 = .ok (.iconst 2, 1) := by decide +kernel
theorem dL_law_502 : decode cL_law 502 = .ok (.iadd, 1) := by decide +kernel
theorem dL_law_503 : decode cL_law 503 = .ok (.iaload, 1) := by decide +kernel
theorem dL_law_504 : decode cL_law 504 = .ok (.invokevirtual 52, 3) := by decide +kernel
theorem dL_law_507 : decode cL_law 507 = .ok (.aload_n 2, 1) := by decide +kernel
theorem dL_law_508 : decode cL_law 508 = .ok (.aload_n 0, 1) := by decide +kernel
theorem dL_law_509 : decode cL_law 509 = .ok (.iload_n 3, 1) := by decide +kernel
theorem dL_law_510 : decode cL_law 510 = .ok (.iconst 1, 1) := by decide +kernel
theorem dL_law_511 : decode cL_law 511 = .ok (.iadd, 1) := by decide +kernel
theorem dL_law_512 : decode cL_law 512 = .ok (.iaload, 1) := by decide +kernel
theorem dL_law_513 : decode cL_law 513 = .ok (.aload_n 0, 1) := by decide +kernel
theorem dL_law_514 : decode cL_law 514 = .ok (.iload_n 3, 1) := by decide +kernel
theorem dL_law_515 : decode cL_law 515 = .ok (.iconst 2, 1) := by decide +kernel
theorem dL_law_516 : decode cL_law 516 = .ok (.iadd, 1) := by decide +kernel
theorem dL_law_517 : decode cL_law 517 = .ok (.iaload, 1) := by decide +kernel
theorem dL_law_518 : decode cL_law 518 = .ok (.invokevirtual 55, 3) := by decide +kernel
theorem dL_law_521 : decode cL_law 521 = .ok (.if_icmp .eq 871, 3) := by decide +kernel
theorem dL_law_524 : decode cL_law 524 = .ok (.iconst 0, 1) := by decide +kernel
theorem dL_law_525 : decode cL_law 525 = .ok (.ireturn, 1) := by decide +kernel
theorem dL_law_526 : decode cL_law 526 = .ok (.aload_n 1, 1) := by decide +kernel
theorem dL_law_527 : decode cL_law 527 = .ok (.aload_n 0, 1) := by decide +kernel
theorem dL_law_528 : decode cL_law 528 = .ok (.iload_n 3, 1) := by decide +kernel
theorem dL_law_529 : decode cL_law 529 = .ok (.iconst 1, 1) := by decide +kernel
theorem dL_law_530 : decode cL_law 530 = .ok (.iadd, 1) := by decide +kernel
theorem dL_law_531 : decode cL_law 531 = .ok (.iaload, 1) := by decide +kernel
theorem dL_law_532 : decode cL_law 532 = .ok (.invokevirtual 56, 3) := by decide +kernel
theorem dL_law_535 : decode cL_law 535 = .ok (.aload_n 2, 1) := by decide +kernel
theorem dL_law_536 : decode cL_law 536 = .ok (.aload_n 0, 1) := by decide +kernel
theorem dL_law_537 : decode cL_law 537 = .ok (.iload_n 3, 1) := by decide +kernel
theorem dL_law_538 : decode cL_law 538 = .ok (.iconst 1, 1) := by decide +kernel
theorem dL_law_539 : decode cL_law 539 = .ok (.iadd, 1) := by decide +kernel
theorem dL_law_540 : decode cL_law 540 = .ok (.iaload, 1) := by decide +kernel
theorem dL_law_541 : decode cL_law 541 = .ok (.invokevirtual 59, 3) := by decide +kernel
theorem dL_law_544 : decode cL_law 544 = .ok (.if_icmp .eq 848, 3) := by decide +kernel
theorem dL_law_547 : decode cL_law 547 = .ok (.iconst 0, 1) := by decide +kernel
theorem dL_law_548 : decode cL_law 548 = .ok (.ireturn, 1) := by decide +kernel
theorem dL_law_549 : decode cL_law 549 = .ok (.aload_n 1, 1) := by decide +kernel
theorem dL_law_550 : decode cL_law 550 = .ok (.aload_n 0, 1) := by decide +kernel
theorem dL_law_551 : decode cL_law 551 = .ok (.iload_n 3, 1) := by decide +kernel
theorem dL_law_552 : decode cL_law 552 = .ok (.iconst 1, 1) := by decide +kernel
theorem dL_law_553 : decode cL_law 553 = .ok (.iadd, 1) := by decide +kernel
theorem dL_law_554 : decode cL_law 554 = .ok (.iaload, 1) := by decide +kernel
theorem dL_law_555 : decode cL_law 555 = .ok (.invokevirtual 60, 3) := by decide +kernel
theorem dL_law_558 : decode cL_law 558 = .ok (.aload_n 2, 1) := by decide +kernel
theorem dL_law_559 : decode cL_law 559 = .ok (.aload_n 0, 1) := by decide +kernel
theorem dL_law_560 : decode cL_law 560 = .ok (.iload_n 3, 1) := by decide +kernel
theorem dL_law_561 : decode cL_law 561 = .ok (.iconst 1, 1) := by decide +kernel
theorem dL_law_562 : decode cL_law 562 = .ok (.iadd, 1) := by decide +kernel
theorem dL_law_563 : decode cL_law 563 = .ok (.iaload, 1) := by decide +kernel
theorem dL_law_564 : decode cL_law 564 = .ok (.invokevirtual 63, 3) := by decide +kernel
theorem dL_law_567 : decode cL_law 567 = .ok (.if_icmp .eq 825, 3) := by decide +kernel
theorem dL_law_570 : decode cL_law 570 = .ok (.iconst 0, 1) := by decide +kernel
theorem dL_law_571 : decode cL_law 571 = .ok (.ireturn, 1) := by decide +kernel
theorem dL_law_572 : decode cL_law 572 = .ok (.aload_n 1, 1) := by decide +kernel
theorem dL_law_573 : decode cL_law 573 = .ok (.aload_n 0, 1) := by decide +kernel
theorem dL_law_574 : decode cL_law 574 = .ok (.iload_n 3, 1) := by decide +kernel
theorem dL_law_575 : decode cL_law 575 = .ok (.iconst 1, 1) := by decide +kernel
theorem dL_law_576 : decode cL_law 576 = .ok (.iadd, 1) := by decide +kernel
theorem dL_law_577 : decode cL_law 577 = .ok (.iaload, 1) := by decide +kernel
theorem dL_law_578 : decode cL_law 578 = .ok (.invokevirtual 64, 3) := by decide +kernel
theorem dL_law_581 : decode cL_law 581 = .ok (.aload_n 2, 1) := by decide +kernel
theorem dL_law_582 : decode cL_law 582 = .ok (.aload_n 0, 1) := by decide +kernel
theorem dL_law_583 : decode cL_law 583 = .ok (.iload_n 3, 1) := by decide +kernel
theorem dL_law_584 : decode cL_law 584 = .ok (.iconst 1, 1) := by decide +kernel
theorem dL_law_585 : decode cL_law 585 = .ok (.iadd, 1) := by decide +kernel
theorem dL_law_586 : decode cL_law 586 = .ok (.iaload, 1) := by decide +kernel
theorem dL_law_587 : decode cL_law 587 = .ok (.invokevirtual 67, 3) := by decide +kernel
theorem dL_law_590 : decode cL_law 590 = .ok (.if_icmp .eq 802, 3) := by decide +kernel
theorem dL_law_593 : decode cL_law 593 = .ok (.iconst 0, 1) := by decide +kernel
theorem dL_law_594 : decode cL_law 594 = .ok (.ireturn, 1) := by decide +kernel
theorem dL_law_595 : decode cL_law 595 = .ok (.aload_n 1, 1) := by decide +kernel
theorem dL_law_596 : decode cL_law 596 = .ok (.aload_n 0, 1) := by decide +kernel
theorem dL_law_597 : decode cL_law 597 = .ok (.iload_n 3, 1) := by decide +kernel
theorem dL_law_598 : decode cL_law 598 = .ok (.iconst 1, 1) := by decide +kernel
theorem dL_law_599 : decode cL_law 599 = .ok (.iadd, 1) := by decide +kernel
theorem dL_law_600 : decode cL_law 600 = .ok (.iaload, 1) := by decide +kernel
theorem dL_law_601 : decode cL_law 601 = .ok (.invokevirtual 68, 3) := by decide +kernel
theorem dL_law_604 : decode cL_law 604 = .ok (.aload_n 2, 1) := by decide +kernel
theorem dL_law_605 : decode cL_law 605 = .ok (.aload_n 0, 1) := by decide +kernel
theorem dL_law_606 : decode cL_law 606 = .ok (.iload_n 3, 1) := by decide +kernel
theorem dL_law_607 : decode cL_law 607 = .ok (.iconst 1, 1) := by decide +kernel
theorem dL_law_608 : decode cL_law 608 = .ok (.iadd, 1) := by decide +kernel
theorem dL_law_609 : decode cL_law 609 = .ok (.iaload, 1) := by decide +kernel
theorem dL_law_610 : decode cL_law 610 = .ok (.invokevirtual 71, 3) := by decide +kernel
theorem dL_law_613 : decode cL_law 613 = .ok (.if_icmp .eq 779, 3) := by decide +kernel
theorem dL_law_616 : decode cL_law 616 = .ok (.iconst 0, 1) := by decide +kernel
theorem dL_law_617 : decode cL_law 617 = .ok (.ireturn, 1) := by decide +kernel
theorem dL_law_618 : decode cL_law 618 = .ok (.aload_n 1, 1) := by decide +kernel
theorem dL_law_619 : decode cL_law 619 = .ok (.aload_n 0, 1) := by decide +kernel
theorem dL_law_620 : decode cL_law 620 = .ok (.iload_n 3, 1) := by decide +kernel
theorem dL_law_621 : decode cL_law 621 = .ok (.iconst 1, 1) := by decide +kernel
theorem dL_law_622 : decode cL_law 622 = .ok (.iadd, 1) := by decide +kernel
theorem dL_law_623 : decode cL_law 623 = .ok (.iaload, 1) := by decide +kernel
theorem dL_law_624 : decode cL_law 624 = .ok (.invokevirtual 72, 3) := by decide +kernel
theorem dL_law_627 : decode cL_law 627 = .ok (.aload_n 2, 1) := by decide +kernel
theorem dL_law_628 : decode cL_law 628 = .ok (.aload_n 0, 1) := by decide +kernel
theorem dL_law_629 : decode cL_law 629 = .ok (.iload_n 3, 1) := by decide +kernel
theorem dL_law_630 : decode cL_law 630 = .ok (.iconst 1, 1) := by decide +kernel
theorem dL_law_631 : decode cL_law 631 = .ok (.iadd, 1) := by decide +kernel
theorem dL_law_632 : decode cL_law 632 = .ok (.iaload, 1) := by decide +kernel
theorem dL_law_633 : decode cL_law 633 = .ok (.invokevirtual 75, 3) := by decide +kernel
theorem dL_law_636 : decode cL_law 636 = .ok (.if_icmp .eq 756, 3) := by decide +kernel
theorem dL_law_639 : decode cL_law 639 = .ok (.iconst 0, 1) := by decide +kernel
theorem dL_law_640 : decode cL_law 640 = .ok (.ireturn, 1) := by decide +kernel
theorem dL_law_641 : decode cL_law 641 = .ok (.aload_n 1, 1) := by decide +kernel
theorem dL_law_642 : decode cL_law 642 = .ok (.aload_n 0, 1) := by decide +kernel
theorem dL_law_643 : decode cL_law 643 = .ok (.iload_n 3, 1) := by decide +kernel
theorem dL_law_644 : decode cL_law 644 = .ok (.iconst 1, 1) := by decide +kernel
theorem dL_law_645 : decode cL_law 645 = .ok (.iadd, 1) := by decide +kernel
theorem dL_law_646 : decode cL_law 646 = .ok (.iaload, 1) := by decide +kernel
theorem dL_law_647 : decode cL_law 647 = .ok (.invokevirtual 76, 3) := by decide +kernel
theorem dL_law_650 : decode cL_law 650 = .ok (.aload_n 2, 1) := by decide +kernel
theorem dL_law_651 : decode cL_law 651 = .ok (.aload_n 0, 1) := by decide +kernel
theorem dL_law_652 : decode cL_law 652 = .ok (.iload_n 3, 1) := by decide +kernel
theorem dL_law_653 : decode cL_law 653 = .ok (.iconst 1, 1) := by decide +kernel
theorem dL_law_654 : decode cL_law 654 = .ok (.iadd, 1) := by decide +kernel
theorem dL_law_655 : decode cL_law 655 = .ok (.iaload, 1) := by decide +kernel
theorem dL_law_656 : decode cL_law 656 = .ok (.invokevirtual 79, 3) := by decide +kernel
theorem dL_law_659 : decode cL_law 659 = .ok (.if_icmp .eq 733, 3) := by decide +kernel
theorem dL_law_662 : decode cL_law 662 = .ok (.iconst 0, 1) := by decide +kernel
theorem dL_law_663 : decode cL_law 663 = .ok (.ireturn, 1) := by decide +kernel
theorem dL_law_664 : decode cL_law 664 = .ok (.aload_n 1, 1) := by decide +kernel
theorem dL_law_665 : decode cL_law 665 = .ok (.aload_n 0, 1) := by decide +kernel
theorem dL_law_666 : decode cL_law 666 = .ok (.iload_n 3, 1) := by decide +kernel
theorem dL_law_667 : decode cL_law 667 = .ok (.iconst 1, 1) := by decide +kernel
theorem dL_law_668 : decode cL_law 668 = .ok (.iadd, 1) := by decide +kernel
theorem dL_law_669 : decode cL_law 669 = .ok (.iaload, 1) := by decide +kernel
theorem dL_law_670 : decode cL_law 670 = .ok (.invokevirtual 80, 3) := by decide +kernel
theorem dL_law_673 : decode cL_law 673 = .ok (.aload_n 2, 1) := by decide +kernel
theorem dL_law_674 : decode cL_law 674 = .ok (.aload_n 0, 1) := by decide +kernel
theorem dL_law_675 : decode cL_law 675 = .ok (.iload_n 3, 1) := by decide +kernel
theorem dL_law_676 : decode cL_law 676 = .ok (.iconst 1, 1) := by decide +kernel
theorem dL_law_677 : decode cL_law 677 = .ok (.iadd, 1) := by decide +kernel
theorem dL_law_678 : decode cL_law 678 = .ok (.iaload, 1) := by decide +kernel
theorem dL_law_679 : decode cL_law 679 = .ok (.invokevirtual 83, 3) := by decide +kernel
theorem dL_law_682 : decode cL_law 682 = .ok (.if_icmp .eq 710, 3) := by decide +kernel
theorem dL_law_685 : decode cL_law 685 = .ok (.iconst 0, 1) := by decide +kernel
theorem dL_law_686 : decode cL_law 686 = .ok (.ireturn, 1) := by decide +kernel
theorem dL_law_687 : decode cL_law 687 = .ok (.aload_n 1, 1) := by decide +kernel
theorem dL_law_688 : decode cL_law 688 = .ok (.aload_n 0, 1) := by decide +kernel
theorem dL_law_689 : decode cL_law 689 = .ok (.iload_n 3, 1) := by decide +kernel
theorem dL_law_690 : decode cL_law 690 = .ok (.iconst 1, 1) := by decide +kernel
theorem dL_law_691 : decode cL_law 691 = .ok (.iadd, 1) := by decide +kernel
theorem dL_law_692 : decode cL_law 692 = .ok (.iaload, 1) := by decide +kernel
theorem dL_law_693 : decode cL_law 693 = .ok (.aload_n 0, 1) := by decide +kernel
theorem dL_law_694 : decode cL_law 694 = .ok (.iload_n 3, 1) := by decide +kernel
theorem dL_law_695 : decode cL_law 695 = .ok (.iconst 2, 1) := by decide +kernel
theorem dL_law_696 : decode cL_law 696 = .ok (.iadd, 1) := by decide +kernel
theorem dL_law_697 : decode cL_law 697 = .ok (.iaload, 1) := by decide +kernel
theorem dL_law_698 : decode cL_law 698 = .ok (.invokevirtual 84, 3) := by decide +kernel
theorem dL_law_701 : decode cL_law 701 = .ok (.aload_n 2, 1) := by decide +kernel
theorem dL_law_702 : decode cL_law 702 = .ok (.aload_n 0, 1) := by decide +kernel
theorem dL_law_703 : decode cL_law 703 = .ok (.iload_n 3, 1) := by decide +kernel
theorem dL_law_704 : decode cL_law 704 = .ok (.iconst 1, 1) := by decide +kernel
theorem dL_law_705 : decode cL_law 705 = .ok (.iadd, 1) := by decide +kernel
theorem dL_law_706 : decode cL_law 706 = .ok (.iaload, 1) := by decide +kernel
theorem dL_law_707 : decode cL_law 707 = .ok (.aload_n 0, 1) := by decide +kernel
theorem dL_law_708 : decode cL_law 708 = .ok (.iload_n 3, 1) := by decide +kernel
theorem dL_law_709 : decode cL_law 709 = .ok (.iconst 2, 1) := by decide +kernel
theorem dL_law_710 : decode cL_law 710 = .ok (.iadd, 1) := by decide +kernel
theorem dL_law_711 : decode cL_law 711 = .ok (.iaload, 1) := by decide +kernel
theorem dL_law_712 : decode cL_law 712 = .ok (.invokevirtual 87, 3) := by decide +kernel
theorem dL_law_715 : decode cL_law 715 = .ok (.if_icmp .eq 677, 3) := by decide +kernel
theorem dL_law_718 : decode cL_law 718 = .ok (.iconst 0, 1) := by decide +kernel
theorem dL_law_719 : decode cL_law 719 = .ok (.ireturn, 1) := by decide +kernel
theorem dL_law_720 : decode cL_law 720 = .ok (.aload_n 1, 1) := by decide +kernel
theorem dL_law_721 : decode cL_law 721 = .ok (.invokevirtual 88, 3) := by decide +kernel
theorem dL_law_724 : decode cL_law 724 = .ok (.aload_n 2, 1) := by decide +kernel
theorem dL_law_725 : decode cL_law 725 = .ok (.invokevirtual 92, 3) := by decide +kernel
theorem dL_law_728 : decode cL_law 728 = .ok (.if_icmp .eq 664, 3) := by decide +kernel
theorem dL_law_731 : decode cL_law 731 = .ok (.iconst 0, 1) := by decide +kernel
theorem dL_law_732 : decode cL_law 732 = .ok (.ireturn, 1) := by decide +kernel
theorem dL_law_733 : decode cL_law 733 = .ok (.aload_n 1, 1) := by decide +kernel
theorem dL_law_734 : decode cL_law 734 = .ok (.aload_n 0, 1) := by decide +kernel
theorem dL_law_735 : decode cL_law 735 = .ok (.iload_n 3, 1) := by decide +kernel
theorem dL_law_736 : decode cL_law 736 = .ok (.iconst 1, 1) := by decide +kernel
theorem dL_law_737 : decode cL_law 737 = .ok (.iadd, 1) := by decide +kernel
theorem dL_law_738 : decode cL_law 738 = .ok (.iaload, 1) := by decide +kernel
theorem dL_law_739 : decode cL_law 739 = .ok (.aload_n 0, 1) := by decide +kernel
theorem dL_law_740 : decode cL_law 740 = .ok (.iload_n 3, 1) := by decide +kernel
theorem dL_law_741 : decode cL_law 741 = .ok (.iconst 2, 1) := by decide +kernel
theorem dL_law_742 : decode cL_law 742 = .ok (.iadd, 1) := by decide +kernel
theorem dL_law_743 : decode cL_law 743 = .ok (.iaload, 1) := by decide +kernel
theorem dL_law_744 : decode cL_law 744 = .ok (.invokevirtual 93, 3) := by decide +kernel
theorem dL_law_747 : decode cL_law 747 = .ok (.aload_n 2, 1) := by decide +kernel
theorem dL_law_748 : decode cL_law 748 = .ok (.aload_n 0, 1) := by decide +kernel
theorem dL_law_749 : decode cL_law 749 = .ok (.iload_n 3, 1) := by decide +kernel
theorem dL_law_750 : decode cL_law 750 = .ok (.iconst 1, 1) := by decide +kernel
theorem dL_law_751 : decode cL_law 751 = .ok (.iadd, 1) := by decide +kernel
theorem dL_law_752 : decode cL_law 752 = .ok (.iaload, 1) := by decide +kernel
theorem dL_law_753 : decode cL_law 753 = .ok (.aload_n 0, 1) := by decide +kernel
theorem dL_law_754 : decode cL_law 754 = .ok (.iload_n 3, 1) := by decide +kernel
theorem dL_law_755 : decode cL_law 755 = .ok (.iconst 2, 1) := by decide +kernel
theorem dL_law_756 : decode cL_law 756 = .ok (.iadd, 1) := by decide +kernel
theorem dL_law_757 : decode cL_law 757 = .ok (.iaload, 1) := by decide +kernel
theorem dL_law_758 : decode cL_law 758 = .ok (.invokevirtual 96, 3) := by decide +kernel
theorem dL_law_761 : decode cL_law 761 = .ok (.if_icmp .eq 631, 3) := by decide +kernel
theorem dL_law_764 : decode cL_law 764 = .ok (.iconst 0, 1) := by decide +kernel
theorem dL_law_765 : decode cL_law 765 = .ok (.ireturn, 1) := by decide +kernel
theorem dL_law_766 : decode cL_law 766 = .ok (.aload_n 1, 1) := by decide +kernel
theorem dL_law_767 : decode cL_law 767 = .ok (.aload_n 0, 1) := by decide +kernel
theorem dL_law_768 : decode cL_law 768 = .ok (.iload_n 3, 1) := by decide +kernel
theorem dL_law_769 : decode cL_law 769 = .ok (.iconst 1, 1) := by decide +kernel
theorem dL_law_770 : decode cL_law 770 = .ok (.iadd, 1) := by decide +kernel
theorem dL_law_771 : decode cL_law 771 = .ok (.iaload, 1) := by decide +kernel
theorem dL_law_772 : decode cL_law 772 = .ok (.invokevirtual 97, 3) := by decide +kernel
theorem dL_law_775 : decode cL_law 775 = .ok (.aload_n 2, 1) := by decide +kernel
theorem dL_law_776 : decode cL_law 776 = .ok (.aload_n 0, 1) := by decide +kernel
theorem dL_law_777 : decode cL_law 777 = .ok (.iload_n 3, 1) := by decide +kernel
theorem dL_law_778 : decode cL_law 778 = .ok (.iconst 1, 1) := by decide +kernel
theorem dL_law_779 : decode cL_law 779 = .ok (.iadd, 1) := by decide +kernel
theorem dL_law_780 : decode cL_law 780 = .ok (.iaload, 1) := by decide +kernel
theorem dL_law_781 : decode cL_law 781 = .ok (.invokevirtual 100, 3) := by decide +kernel
theorem dL_law_784 : decode cL_law 784 = .ok (.if_icmp .eq 608, 3) := by decide +kernel
theorem dL_law_787 : decode cL_law 787 = .ok (.iconst 0, 1) := by decide +kernel
theorem dL_law_788 : decode cL_law 788 = .ok (.ireturn, 1) := by decide +kernel
theorem dL_law_789 : decode cL_law 789 = .ok (.aload_n 1, 1) := by decide +kernel
theorem dL_law_790 : decode cL_law 790 = .ok (.invokevirtual 101, 3) := by decide +kernel
theorem dL_law_793 : decode cL_law 793 = .ok (.aload_n 2, 1) := by decide +kernel
theorem dL_law_794 : decode cL_law 794 = .ok (.invokevirtual 104, 3) := by decide +kernel
theorem dL_law_797 : decode cL_law 797 = .ok (.if_icmp .eq 595, 3) := by decide +kernel
theorem dL_law_800 : decode cL_law 800 = .ok (.iconst 0, 1) := by decide +kernel
theorem dL_law_801 : decode cL_law 801 = .ok (.ireturn, 1) := by decide +kernel
theorem dL_law_802 : decode cL_law 802 = .ok (.aload_n 1, 1) := by decide +kernel
theorem dL_law_803 : decode cL_law 803 = .ok (.aload_n 0, 1) := by decide +kernel
theorem dL_law_804 : decode cL_law 804 = .ok (.iload_n 3, 1) := by decide +kernel
theorem dL_law_805 : decode cL_law 805 = .ok (.iconst 1, 1) := by decide +kernel
theorem dL_law_806 : decode cL_law 806 = .ok (.iadd, 1) := by decide +kernel
theorem dL_law_807 : decode cL_law 807 = .ok (.iaload, 1) := by decide +kernel
theorem dL_law_808 : decode cL_law 808 = .ok (.invokevirtual 105, 3) := by decide +kernel
theorem dL_law_811 : decode cL_law 811 = .ok (.aload_n 2, 1) := by decide +kernel
theorem dL_law_812 : decode cL_law 812 = .ok (.aload_n 0, 1) := by decide +kernel
theorem dL_law_813 : decode cL_law 813 = .ok (.iload_n 3, 1) := by decide +kernel
theorem dL_law_814 : decode cL_law 814 = .ok (.iconst 1, 1) := by decide +kernel
theorem dL_law_815 : decode cL_law 815 = .ok (.iadd, 1) := by decide +kernel
theorem dL_law_816 : decode cL_law 816 = .ok (.iaload, 1) := by decide +kernel
theorem dL_law_817 : decode cL_law 817 = .ok (.invokevirtual 108, 3) := by decide +kernel
theorem dL_law_820 : decode cL_law 820 = .ok (.if_icmp .eq 572, 3) := by decide +kernel
theorem dL_law_823 : decode cL_law 823 = .ok (.iconst 0, 1) := by decide +kernel
theorem dL_law_824 : decode cL_law 824 = .ok (.ireturn, 1) := by decide +kernel
theorem dL_law_825 : decode cL_law 825 = .ok (.aload_n 1, 1) := by decide +kernel
theorem dL_law_826 : decode cL_law 826 = .ok (.aload_n 0, 1) := by decide +kernel
theorem dL_law_827 : decode cL_law 827 = .ok (.iload_n 3, 1) := by decide +kernel
theorem dL_law_828 : decode cL_law 828 = .ok (.iconst 1, 1) := by decide +kernel
theorem dL_law_829 : decode cL_law 829 = .ok (.iadd, 1) := by decide +kernel
theorem dL_law_830 : decode cL_law 830 = .ok (.iaload, 1) := by decide +kernel
theorem dL_law_831 : decode cL_law 831 = .ok (.aload_n 0, 1) := by decide +kernel
theorem dL_law_832 : decode cL_law 832 = .ok (.iload_n 3, 1) := by decide +kernel
theorem dL_law_833 : decode cL_law 833 = .ok (.iconst 2, 1) := by decide +kernel
theorem dL_law_834 : decode cL_law 834 = .ok (.iadd, 1) := by decide +kernel
theorem dL_law_835 : decode cL_law 835 = .ok (.iaload, 1) := by decide +kernel
theorem dL_law_836 : decode cL_law 836 = .ok (.aload_n 0, 1) := by decide +kernel
theorem dL_law_837 : decode cL_law 837 = .ok (.iload_n 3, 1) := by decide +kernel
theorem dL_law_838 : decode cL_law 838 = .ok (.iconst 3, 1) := by decide +kernel
theorem dL_law_839 : decode cL_law 839 = .ok (.iadd, 1) := by decide +kernel
theorem dL_law_840 : decode cL_law 840 = .ok (.iaload, 1) := by decide +kernel
theorem dL_law_841 : decode cL_law 841 = .ok (.invokevirtual 109, 3) := by decide +kernel
theorem dL_law_844 : decode cL_law 844 = .ok (.aload_n 2, 1) := by decide +kernel
theorem dL_law_845 : decode cL_law 845 = .ok (.aload_n 0, 1) := by decide +kernel
theorem dL_law_846 : decode cL_law 846 = .ok (.iload_n 3, 1) := by decide +kernel
theorem dL_law_847 : decode cL_law 847 = .ok (.iconst 1, 1) := by decide +kernel
theorem dL_law_848 : decode cL_law 848 = .ok (.iadd, 1) := by decide +kernel
theorem dL_law_849 : decode cL_law 849 = .ok (.iaload, 1) := by decide +kernel
theorem dL_law_850 : decode cL_law 850 = .ok (.aload_n 0, 1) := by decide +kernel
theorem dL_law_851 : decode cL_law 851 = .ok (.iload_n 3, 1) := by decide +kernel
theorem dL_law_852 : decode cL_law 852 = .ok (.iconst 2, 1) := by decide +kernel
theorem dL_law_853 : decode cL_law 853 = .ok (.iadd, 1) := by decide +kernel
theorem dL_law_854 : decode cL_law 854 = .ok (.iaload, 1) := by decide +kernel
theorem dL_law_855 : decode cL_law 855 = .ok (.aload_n 0, 1) := by decide +kernel
theorem dL_law_856 : decode cL_law 856 = .ok (.iload_n 3, 1) := by decide +kernel
theorem dL_law_857 : decode cL_law 857 = .ok (.iconst 3, 1) := by decide +kernel
theorem dL_law_858 : decode cL_law 858 = .ok (.iadd, 1) := by decide +kernel
theorem dL_law_859 : decode cL_law 859 = .ok (.iaload, 1) := by decide +kernel
theorem dL_law_860 : decode cL_law 860 = .ok (.invokevirtual 112, 3) := by decide +kernel
theorem dL_law_863 : decode cL_law 863 = .ok (.if_icmp .eq 529, 3) := by decide +kernel
theorem dL_law_866 : decode cL_law 866 = .ok (.iconst 0, 1) := by decide +kernel
theorem dL_law_867 : decode cL_law 867 = .ok (.ireturn, 1) := by decide +kernel
theorem dL_law_868 : decode cL_law 868 = .ok (.aload_n 1, 1) := by decide +kernel
theorem dL_law_869 : decode cL_law 869 = .ok (.aload_n 0, 1) := by decide +kernel
theorem dL_law_870 : decode cL_law 870 = .ok (.iload_n 3, 1) := by decide +kernel
theorem dL_law_871 : decode cL_law 871 = .ok (.iconst 1, 1) := by decide +kernel
theorem dL_law_872 : decode cL_law 872 = .ok (.iadd, 1) := by decide +kernel
theorem dL_law_873 : decode cL_law 873 = .ok (.iaload, 1) := by decide +kernel
theorem dL_law_874 : decode cL_law 874 = .ok (.invokevirtual 113, 3) := by decide +kernel
theorem dL_law_877 : decode cL_law 877 = .ok (.aload_n 2, 1) := by decide +kernel
theorem dL_law_878 : decode cL_law 878 = .ok (.aload_n 0, 1) := by decide +kernel
theorem dL_law_879 : decode cL_law 879 = .ok (.iload_n 3, 1) := by decide +kernel
theorem dL_law_880 : decode cL_law 880 = .ok (.iconst 1, 1) := by decide +kernel
theorem dL_law_881 : decode cL_law 881 = .ok (.iadd, 1) := by decide +kernel
theorem dL_law_882 : decode cL_law 882 = .ok (.iaload, 1) := by decide +kernel
theorem dL_law_883 : decode cL_law 883 = .ok (.invokevirtual 116, 3) := by decide +kernel
theorem dL_law_886 : decode cL_law 886 = .ok (.if_icmp .eq 506, 3) := by decide +kernel
theorem dL_law_889 : decode cL_law 889 = .ok (.iconst 0, 1) := by decide +kernel
theorem dL_law_890 : decode cL_law 890 = .ok (.ireturn, 1) := by decide +kernel
theorem dL_law_891 : decode cL_law 891 = .ok (.aload_n 1, 1) := by decide +kernel
theorem dL_law_892 : decode cL_law 892 = .ok (.invokevirtual 117, 3) := by decide +kernel
theorem dL_law_895 : decode cL_law 895 = .ok (.aload_n 2, 1) := by decide +kernel
theorem dL_law_896 : decode cL_law 896 = .ok (.invokevirtual 120, 3) := by decide +kernel
theorem dL_law_899 : decode cL_law 899 = .ok (.if_icmp .eq 493, 3) := by decide +kernel
theorem dL_law_902 : decode cL_law 902 = .ok (.iconst 0, 1) := by decide +kernel
theorem dL_law_903 : decode cL_law 903 = .ok (.ireturn, 1) := by decide +kernel
theorem dL_law_904 : decode cL_law 904 = .ok (.aload_n 1, 1) := by decide +kernel
theorem dL_law_905 : decode cL_law 905 = .ok (.aload_n 0, 1) := by decide +kernel
theorem dL_law_906 : decode cL_law 906 = .ok (.iload_n 3, 1) := by decide +kernel
theorem dL_law_907 : decode cL_law 907 = .ok (.iconst 1, 1) := by decide +kernel
theorem dL_law_908 : decode cL_law 908 = .ok (.iadd, 1) := by decide +kernel
theorem dL_law_909 : decode cL_law 909 = .ok (.iaload, 1) := by decide +kernel
theorem dL_law_910 : decode cL_law 910 = .ok (.aload_n 0, 1) := by decide +kernel
theorem dL_law_911 : decode cL_law 911 = .ok (.iload_n 3, 1) := by decide +kernel
theorem dL_law_912 : decode cL_law 912 = .ok (.iconst 2, 1) := by decide +kernel
theorem dL_law_913 : decode cL_law 913 = .ok (.iadd, 1) := by decide +kernel
theorem dL_law_914 : decode cL_law 914 = .ok (.iaload, 1) := by decide +kernel
theorem dL_law_915 : decode cL_law 915 = .ok (.invokevirtual 121, 3) := by decide +kernel
theorem dL_law_918 : decode cL_law 918 = .ok (.aload_n 2, 1) := by decide +kernel
theorem dL_law_919 : decode cL_law 919 = .ok (.aload_n 0, 1) := by decide +kernel
theorem dL_law_920 : decode cL_law 920 = .ok (.iload_n 3, 1) := by decide +kernel
theorem dL_law_921 : decode cL_law 921 = .ok (.iconst 1, 1) := by decide +kernel
theorem dL_law_922 : decode cL_law 922 = .ok (.iadd, 1) := by decide +kernel
theorem dL_law_923 : decode cL_law 923 = .ok (.iaload, 1) := by decide +kernel
theorem dL_law_924 : decode cL_law 924 = .ok (.aload_n 0, 1) := by decide +kernel
theorem dL_law_925 : decode cL_law 925 = .ok (.iload_n 3, 1) := by decide +kernel
theorem dL_law_926 : decode cL_law 926 = .ok (.iconst 2, 1) := by decide +kernel
theorem dL_law_927 : decode cL_law 927 = .ok (.iadd, 1) := by decide +kernel
theorem dL_law_928 : decode cL_law 928 = .ok (.iaload, 1) := by decide +kernel
theorem dL_law_929 : decode cL_law 929 = .ok (.invokevirtual 124, 3) := by decide +kernel
theorem dL_law_932 : decode cL_law 932 = .ok (.if_icmp .eq 460, 3) := by decide +kernel
theorem dL_law_935 : decode cL_law 935 = .ok (.iconst 0, 1) := by decide +kernel
theorem dL_law_936 : decode cL_law 936 = .ok (.ireturn, 1) := by decide +kernel
theorem dL_law_937 : decode cL_law 937 = .ok (.aload_n 1, 1) := by decide +kernel
theorem dL_law_938 : decode cL_law 938 = .ok (.aload_n 0, 1) := by decide +kernel
theorem dL_law_939 : decode cL_law 939 = .ok (.iload_n 3, 1) := by decide +kernel
theorem dL_law_940 : decode cL_law 940 = .ok (.iconst 1, 1) := by decide +kernel
theorem dL_law_941 : decode cL_law 941 = .ok (.iadd, 1) := by decide +kernel
theorem dL_law_942 : decode cL_law 942 = .ok (.iaload, 1) := by decide +kernel
theorem dL_law_943 : decode cL_law 943 = .ok (.invokevirtual 125, 3) := by decide +kernel
theorem dL_law_946 : decode cL_law 946 = .ok (.aload_n 2, 1) := by decide +kernel
theorem dL_law_947 : decode cL_law 947 = .ok (.aload_n 0, 1) := by decide +kernel
theorem dL_law_948 : decode cL_law 948 = .ok (.iload_n 3, 1) := by decide +kernel
theorem dL_law_949 : decode cL_law 949 = .ok (.iconst 1, 1) := by decide +kernel
theorem dL_law_950 : decode cL_law 950 = .ok (.iadd, 1) := by decide +kernel
theorem dL_law_951 : decode cL_law 951 = .ok (.iaload, 1) := by decide +kernel
theorem dL_law_952 : decode cL_law 952 = .ok (.invokevirtual 128, 3) := by decide +kernel
theorem dL_law_955 : decode cL_law 955 = .ok (.if_icmp .eq 437, 3) := by decide +kernel
theorem dL_law_958 : decode cL_law 958 = .ok (.iconst 0, 1) := by decide +kernel
theorem dL_law_959 : decode cL_law 959 = .ok (.ireturn, 1) := by decide +kernel
theorem dL_law_960 : decode cL_law 960 = .ok (.aload_n 1, 1) := by decide +kernel
theorem dL_law_961 : decode cL_law 961 = .ok (.aload_n 0, 1) := by decide +kernel
theorem dL_law_962 : decode cL_law 962 = .ok (.iload_n 3, 1) := by decide +kernel
theorem dL_law_963 : decode cL_law 963 = .ok (.iconst 1, 1) := by decide +kernel
theorem dL_law_964 : decode cL_law 964 = .ok (.iadd, 1) := by decide +kernel
theorem dL_law_965 : decode cL_law 965 = .ok (.iaload, 1) := by decide +kernel
theorem dL_law_966 : decode cL_law 966 = .ok (.aload_n 0, 1) := by decide +kernel
theorem dL_law_967 : decode cL_law 967 = .ok (.iload_n 3, 1) := by decide +kernel
theorem dL_law_968 : decode cL_law 968 = .ok (.iconst 2, 1) := by decide +kernel
theorem dL_law_969 : decode cL_law 969 = .ok (.iadd, 1) := by decide +kernel
theorem dL_law_970 : decode cL_law 970 = .ok (.iaload, 1) := by decide +kernel
theorem dL_law_971 : decode cL_law 971 = .ok (.aload_n 0, 1) := by decide +kernel
theorem dL_law_972 : decode cL_law 972 = .ok (.iload_n 3, 1) := by decide +kernel
theorem dL_law_973 : decode cL_law 973 = .ok (.iconst 3, 1) := by decide +kernel
theorem dL_law_974 : decode cL_law 974 = .ok (.iadd, 1) := by decide +kernel
theorem dL_law_975 : decode cL_law 975 = .ok (.iaload, 1) := by decide +kernel
theorem dL_law_976 : decode cL_law 976 = .ok (.invokevirtual 129, 3) := by decide +kernel
theorem dL_law_979 : decode cL_law 979 = .ok (.aload_n 2, 1) := by decide +kernel
theorem dL_law_980 : decode cL_law 980 = .ok (.aload_n 0, 1) := by decide +kernel
theorem dL_law_981 : decode cL_law 981 = .ok (.iload_n 3, 1) := by decide +kernel
theorem dL_law_982 : decode cL_law 982 = .ok (.iconst 1, 1) := by decide +kernel
theorem dL_law_983 : decode cL_law 983 = .ok (.iadd, 1) := by decide +kernel
theorem dL_law_984 : decode cL_law 984 = .ok (.iaload, 1) := by decide +kernel
theorem dL_law_985 : decode cL_law 985 = .ok (.aload_n 0, 1) := by decide +kernel
theorem dL_law_986 : decode cL_law 986 = .ok (.iload_n 3, 1) := by decide +kernel
theorem dL_law_987 : decode cL_law 987 = .ok (.iconst 2, 1) := by decide +kernel
theorem dL_law_988 : decode cL_law 988 = .ok (.iadd, 1) := by decide +kernel
theorem dL_law_989 : decode cL_law 989 = .ok (.iaload, 1) := by decide +kernel
theorem dL_law_990 : decode cL_law 990 = .ok (.aload_n 0, 1) := by decide +kernel
theorem dL_law_991 : decode cL_law 991 = .ok (.iload_n 3, 1) := by decide +kernel
theorem dL_law_992 : decode cL_law 992 = .ok (.iconst 3, 1) := by decide +kernel
theorem dL_law_993 : decode cL_law 993 = .ok (.iadd, 1) := by decide +kernel
theorem dL_law_994 : decode cL_law 994 = .ok (.iaload, 1) := by decide +kernel
theorem dL_law_995 : decode cL_law 995 = .ok (.invokevirtual 132, 3) := by decide +kernel
theorem dL_law_998 : decode cL_law 998 = .ok (.if_icmp .eq 394, 3) := by decide +kernel
theorem dL_law_1001 : decode cL_law 1001 = .ok (.iconst 0, 1) := by decide +kernel
theorem dL_law_1002 : decode cL_law 1002 = .ok (.ireturn, 1) := by decide +kernel
theorem dL_law_1003 : decode cL_law 1003 = .ok (.aload_n 1, 1) := by decide +kernel
theorem dL_law_1004 : decode cL_law 1004 = .ok (.aload_n 0, 1) := by decide +kernel
theorem dL_law_1005 : decode cL_law 1005 = .ok (.iload_n 3, 1) := by decide +kernel
theorem dL_law_1006 : decode cL_law 1006 = .ok (.iconst 1, 1) := by decide +kernel
theorem dL_law_1007 : decode cL_law 1007 = .ok (.iadd, 1) := by decide +kernel
theorem dL_law_1008 : decode cL_law 1008 = .ok (.iaload, 1) := by decide +kernel
theorem dL_law_1009 : decode cL_law 1009 = .ok (.aload_n 0, 1) := by decide +kernel
theorem dL_law_1010 : decode cL_law 1010 = .ok (.iload_n 3, 1) := by decide +kernel
theorem dL_law_1011 : decode cL_law 1011 = .ok (.iconst 2, 1) := by decide +kernel
theorem dL_law_1012 : decode cL_law 1012 = .ok (.iadd, 1) := by decide +kernel
theorem dL_law_1013 : decode cL_law 1013 = .ok (.iaload, 1) := by decide +kernel
theorem dL_law_1014 : decode cL_law 1014 = .ok (.aload_n 0, 1) := by decide +kernel
theorem dL_law_1015 : decode cL_law 1015 = .ok (.iload_n 3, 1) := by decide +kernel
theorem dL_law_1016 : decode cL_law 1016 = .ok (.iconst 3, 1) := by decide +kernel
theorem dL_law_1017 : decode cL_law 1017 = .ok (.iadd, 1) := by decide +kernel
theorem dL_law_1018 : decode cL_law 1018 = .ok (.iaload, 1) := by decide +kernel
theorem dL_law_1019 : decode cL_law 1019 = .ok (.invokevirtual 133, 3) := by decide +kernel
theorem dL_law_1022 : decode cL_law 1022 = .ok (.aload_n 2, 1) := by decide +kernel
theorem dL_law_1023 : decode cL_law 1023 = .ok (.aload_n 0, 1) := by decide +kernel
theorem dL_law_1024 : decode cL_law 1024 = .ok (.iload_n 3, 1) := by decide +kernel
theorem dL_law_1025 : decode cL_law 1025 = .ok (.iconst 1, 1) := by decide +kernel
theorem dL_law_1026 : decode cL_law 1026 = .ok (.iadd, 1) := by decide +kernel
theorem dL_law_1027 : decode cL_law 1027 = .ok (.iaload, 1) := by decide +kernel
theorem dL_law_1028 : decode cL_law 1028 = .ok (.aload_n 0, 1) := by decide +kernel
theorem dL_law_1029 : decode cL_law 1029 = .ok (.iload_n 3, 1) := by decide +kernel
theorem dL_law_1030 : decode cL_law 1030 = .ok (.iconst 2, 1) := by decide +kernel
theorem dL_law_1031 : decode cL_law 1031 = .ok (.iadd, 1) := by decide +kernel
theorem dL_law_1032 : decode cL_law 1032 = .ok (.iaload, 1) := by decide +kernel
theorem dL_law_1033 : decode cL_law 1033 = .ok (.aload_n 0, 1) := by decide +kernel
theorem dL_law_1034 : decode cL_law 1034 = .ok (.iload_n 3, 1) := by decide +kernel
theorem dL_law_1035 : decode cL_law 1035 = .ok (.iconst 3, 1) := by decide +kernel
theorem dL_law_1036 : decode cL_law 1036 = .ok (.iadd, 1) := by decide +kernel
theorem dL_law_1037 : decode cL_law 1037 = .ok (.iaload, 1) := by decide +kernel
theorem dL_law_1038 : decode cL_law 1038 = .ok (.invokevirtual 136, 3) := by decide +kernel
theorem dL_law_1041 : decode cL_law 1041 = .ok (.if_icmp .eq 351, 3) := by decide +kernel
theorem dL_law_1044 : decode cL_law 1044 = .ok (.iconst 0, 1) := by decide +kernel
theorem dL_law_1045 : decode cL_law 1045 = .ok (.ireturn, 1) := by decide +kernel
theorem dL_law_1046 : decode cL_law 1046 = .ok (.aload_n 1, 1) := by decide +kernel
theorem dL_law_1047 : decode cL_law 1047 = .ok (.aload_n 0, 1) := by decide +kernel
theorem dL_law_1048 : decode cL_law 1048 = .ok (.iload_n 3, 1) := by decide +kernel
theorem dL_law_1049 : decode cL_law 1049 = .ok (.iconst 1, 1) := by decide +kernel
theorem dL_law_1050 : decode cL_law 1050 = .ok (.iadd, 1) := by decide +kernel
theorem dL_law_1051 : decode cL_law 1051 = .ok (.iaload, 1) := by decide +kernel
theorem dL_law_1052 : decode cL_law 1052 = .ok (.invokevirtual 137, 3) := by decide +kernel
theorem dL_law_1055 : decode cL_law 1055 = .ok (.aload_n 2, 1) := by decide +kernel
theorem dL_law_1056 : decode cL_law 1056 = .ok (.aload_n 0, 1) := by decide +kernel
theorem dL_law_1057 : decode cL_law 1057 = .ok (.iload_n 3, 1) := by decide +kernel
theorem dL_law_1058 : decode cL_law 1058 = .ok (.iconst 1, 1) := by decide +kernel
theorem dL_law_1059 : decode cL_law 1059 = .ok (.iadd, 1) := by decide +kernel
theorem dL_law_1060 : decode cL_law 1060 = .ok (.iaload, 1) := by decide +kernel
theorem dL_law_1061 : decode cL_law 1061 = .ok (.invokevirtual 140, 3) := by decide +kernel
theorem dL_law_1064 : decode cL_law 1064 = .ok (.if_icmp .eq 328, 3) := by decide +kernel
theorem dL_law_1067 : decode cL_law 1067 = .ok (.iconst 0, 1) := by decide +kernel
theorem dL_law_1068 : decode cL_law 1068 = .ok (.ireturn, 1) := by decide +kernel
theorem dL_law_1069 : decode cL_law 1069 = .ok (.aload_n 1, 1) := by decide +kernel
theorem dL_law_1070 : decode cL_law 1070 = .ok (.aload_n 0, 1) := by decide +kernel
theorem dL_law_1071 : decode cL_law 1071 = .ok (.iload_n 3, 1) := by decide +kernel
theorem dL_law_1072 : decode cL_law 1072 = .ok (.iconst 1, 1) := by decide +kernel
theorem dL_law_1073 : decode cL_law 1073 = .ok (.iadd, 1) := by decide +kernel
theorem dL_law_1074 : decode cL_law 1074 = .ok (.iaload, 1) := by decide +kernel
theorem dL_law_1075 : decode cL_law 1075 = .ok (.invokevirtual 141, 3) := by decide +kernel
theorem dL_law_1078 : decode cL_law 1078 = .ok (.aload_n 2, 1) := by decide +kernel
theorem dL_law_1079 : decode cL_law 1079 = .ok (.aload_n 0, 1) := by decide +kernel
theorem dL_law_1080 : decode cL_law 1080 = .ok (.iload_n 3, 1) := by decide +kernel
theorem dL_law_1081 : decode cL_law 1081 = .ok (.iconst 1, 1) := by decide +kernel
theorem dL_law_1082 : decode cL_law 1082 = .ok (.iadd, 1) := by decide +kernel
theorem dL_law_1083 : decode cL_law 1083 = .ok (.iaload, 1) := by decide +kernel
theorem dL_law_1084 : decode cL_law 1084 = .ok (.invokevirtual 144, 3) := by decide +kernel
theorem dL_law_1087 : decode cL_law 1087 = .ok (.if_icmp .eq 305, 3) := by decide +kernel
theorem dL_law_1090 : decode cL_law 1090 = .ok (.iconst 0, 1) := by decide +kernel
theorem dL_law_1091 : decode cL_law 1091 = .ok (.ireturn, 1) := by decide +kernel
theorem dL_law_1092 : decode cL_law 1092 = .ok (.aload_n 1, 1) := by decide +kernel
theorem dL_law_1093 : decode cL_law 1093 = .ok (.aload_n 0, 1) := by decide +kernel
theorem dL_law_1094 : decode cL_law 1094 = .ok (.iload_n 3, 1) := by decide +kernel
theorem dL_law_1095 : decode cL_law 1095 = .ok (.iconst 1, 1) := by decide +kernel
theorem dL_law_1096 : decode cL_law 1096 = .ok (.iadd, 1) := by decide +kernel
theorem dL_law_1097 : decode cL_law 1097 = .ok (.iaload, 1) := by decide +kernel
theorem dL_law_1098 : decode cL_law 1098 = .ok (.aload_n 0, 1) := by decide +kernel
theorem dL_law_1099 : decode cL_law 1099 = .ok (.iload_n 3, 1) := by decide +kernel
theorem dL_law_1100 : decode cL_law 1100 = .ok (.iconst 2, 1) := by decide +kernel
theorem dL_law_1101 : decode cL_law 1101 = .ok (.iadd, 1) := by decide +kernel
theorem dL_law_1102 : decode cL_law 1102 = .ok (.iaload, 1) := by decide +kernel
theorem dL_law_1103 : decode cL_law 1103 = .ok (.aload_n 0, 1) := by decide +kernel
theorem dL_law_1104 : decode cL_law 1104 = .ok (.iload_n 3, 1) := by decide +kernel
theorem dL_law_1105 : decode cL_law 1105 = .ok (.iconst 3, 1) := by decide +kernel
theorem dL_law_1106 : decode cL_law 1106 = .ok (.iadd, 1) := by decide +kernel
theorem dL_law_1107 : decode cL_law 1107 = .ok (.iaload, 1) := by decide +kernel
theorem dL_law_1108 : decode cL_law 1108 = .ok (.aload_n 0, 1) := by decide +kernel
theorem dL_law_1109 : decode cL_law 1109 = .ok (.iload_n 3, 1) := by decide +kernel
theorem dL_law_1110 : decode cL_law 1110 = .ok (.iconst 4, 1) := by decide +kernel
theorem dL_law_1111 : decode cL_law 1111 = .ok (.iadd, 1) := by decide +kernel
theorem dL_law_1112 : decode cL_law 1112 = .ok (.iaload, 1) := by decide +kernel
theorem dL_law_1113 : decode cL_law 1113 = .ok (.aload_n 0, 1) := by decide +kernel
theorem dL_law_1114 : decode cL_law 1114 = .ok (.iload_n 3, 1) := by decide +kernel
theorem dL_law_1115 : decode cL_law 1115 = .ok (.iconst 5, 1) := by decide +kernel
theorem dL_law_1116 : decode cL_law 1116 = .ok (.iadd, 1) := by decide +kernel
theorem dL_law_1117 : decode cL_law 1117 = .ok (.iaload, 1) := by decide +kernel
theorem dL_law_1118 : decode cL_law 1118 = .ok (.invokevirtual 145, 3) := by decide +kernel
theorem dL_law_1121 : decode cL_law 1121 = .ok (.aload_n 2, 1) := by decide +kernel
theorem dL_law_1122 : decode cL_law 1122 = .ok (.aload_n 0, 1) := by decide +kernel
theorem dL_law_1123 : decode cL_law 1123 = .ok (.iload_n 3, 1) := by decide +kernel
theorem dL_law_1124 : decode cL_law 1124 = .ok (.iconst 1, 1) := by decide +kernel
theorem dL_law_1125 : decode cL_law 1125 = .ok (.iadd, 1) := by decide +kernel
theorem dL_law_1126 : decode cL_law 1126 = .ok (.iaload, 1) := by decide +kernel
theorem dL_law_1127 : decode cL_law 1127 = .ok (.aload_n 0, 1) := by decide +kernel
theorem dL_law_1128 : decode cL_law 1128 = .ok (.iload_n 3, 1) := by decide +kernel
theorem dL_law_1129 : decode cL_law 1129 = .ok (.iconst 2, 1) := by decide +kernel
theorem dL_law_1130 : decode cL_law 1130 = .ok (.iadd, 1) := by decide +kernel
theorem dL_law_1131 : decode cL_law 1131 = .ok (.iaload, 1) := by decide +kernel
theorem dL_law_1132 : decode cL_law 1132 = .ok (.aload_n 0, 1) := by decide +kernel
theorem dL_law_1133 : decode cL_law 1133 = .ok (.iload_n 3, 1) := by decide +kernel
theorem dL_law_1134 : decode cL_law 1134 = .ok (.iconst 3, 1) := by decide +kernel
theorem dL_law_1135 : decode cL_law 1135 = .ok (.iadd, 1) := by decide +kernel
theorem dL_law_1136 : decode cL_law 1136 = .ok (.iaload, 1) := by decide +kernel
theorem dL_law_1137 : decode cL_law 1137 = .ok (.aload_n 0, 1) := by decide +kernel
theorem dL_law_1138 : decode cL_law 1138 = .ok (.iload_n 3, 1) := by decide +kernel
theorem dL_law_1139 : decode cL_law 1139 = .ok (.iconst 4, 1) := by decide +kernel
theorem dL_law_1140 : decode cL_law 1140 = .ok (.iadd, 1) := by decide +kernel
theorem dL_law_1141 : decode cL_law 1141 = .ok (.iaload, 1) := by decide +kernel
theorem dL_law_1142 : decode cL_law 1142 = .ok (.aload_n 0, 1) := by decide +kernel
theorem dL_law_1143 : decode cL_law 1143 = .ok (.iload_n 3, 1) := by decide +kernel
theorem dL_law_1144 : decode cL_law 1144 = .ok (.iconst 5, 1) := by decide +kernel
theorem dL_law_1145 : decode cL_law 1145 = .ok (.iadd, 1) := by decide +kernel
theorem dL_law_1146 : decode cL_law 1146 = .ok (.iaload, 1) := by decide +kernel
theorem dL_law_1147 : decode cL_law 1147 = .ok (.invokevirtual 149, 3) := by decide +kernel
theorem dL_law_1150 : decode cL_law 1150 = .ok (.if_icmp .eq 242, 3) := by decide +kernel
theorem dL_law_1153 : decode cL_law 1153 = .ok (.iconst 0, 1) := by decide +kernel
theorem dL_law_1154 : decode cL_law 1154 = .ok (.ireturn, 1) := by decide +kernel
theorem dL_law_1155 : decode cL_law 1155 = .ok (.aload_n 1, 1) := by decide +kernel
theorem dL_law_1156 : decode cL_law 1156 = .ok (.aload_n 0, 1) := by decide +kernel
theorem dL_law_1157 : decode cL_law 1157 = .ok (.iload_n 3, 1) := by decide +kernel
theorem dL_law_1158 : decode cL_law 1158 = .ok (.iconst 1, 1) := by decide +kernel
theorem dL_law_1159 : decode cL_law 1159 = .ok (.iadd, 1) := by decide +kernel
theorem dL_law_1160 : decode cL_law 1160 = .ok (.iaload, 1) := by decide +kernel
theorem dL_law_1161 : decode cL_law 1161 = .ok (.aload_n 0, 1) := by decide +kernel
theorem dL_law_1162 : decode cL_law 1162 = .ok (.iload_n 3, 1) := by decide +kernel
theorem dL_law_1163 : decode cL_law 1163 = .ok (.iconst 2, 1) := by decide +kernel
theorem dL_law_1164 : decode cL_law 1164 = .ok (.iadd, 1) := by decide +kernel
theorem dL_law_1165 : decode cL_law 1165 = .ok (.iaload, 1) := by decide +kernel
theorem dL_law_1166 : decode cL_law 1166 = .ok (.aload_n 0, 1) := by decide +kernel
theorem dL_law_1167 : decode cL_law 1167 = .ok (.iload_n 3, 1) := by decide +kernel
theorem dL_law_1168 : decode cL_law 1168 = .ok (.iconst 3, 1) := by decide +kernel
theorem dL_law_1169 : decode cL_law 1169 = .ok (.iadd, 1) := by decide +kernel
theorem dL_law_1170 : decode cL_law 1170 = .ok (.iaload, 1) := by decide +kernel
theorem dL_law_1171 : decode cL_law 1171 = .ok (.invokevirtual 150, 3) := by decide +kernel
theorem dL_law_1174 : decode cL_law 1174 = .ok (.aload_n 2, 1) := by decide +kernel
theorem dL_law_1175 : decode cL_law 1175 = .ok (.aload_n 0, 1) := by decide +kernel
theorem dL_law_1176 : decode cL_law 1176 = .ok (.iload_n 3, 1) := by decide +kernel
theorem dL_law_1177 : decode cL_law 1177 = .ok (.iconst 1, 1) := by decide +kernel
theorem dL_law_1178 : decode cL_law 1178 = .ok (.iadd, 1) := by decide +kernel
theorem dL_law_1179 : decode cL_law 1179 = .ok (.iaload, 1) := by decide +kernel
theorem dL_law_1180 : decode cL_law 1180 = .ok (.aload_n 0, 1) := by decide +kernel
theorem dL_law_1181 : decode cL_law 1181 = .ok (.iload_n 3, 1) := by decide +kernel
theorem dL_law_1182 : decode cL_law 1182 = .ok (.iconst 2, 1) := by decide +kernel
theorem dL_law_1183 : decode cL_law 1183 = .ok (.iadd, 1) := by decide +kernel
theorem dL_law_1184 : decode cL_law 1184 = .ok (.iaload, 1) := by decide +kernel
theorem dL_law_1185 : decode cL_law 1185 = .ok (.aload_n 0, 1) := by decide +kernel
theorem dL_law_1186 : decode cL_law 1186 = .ok (.iload_n 3, 1) := by decide +kernel
theorem dL_law_1187 : decode cL_law 1187 = .ok (.iconst 3, 1) := by decide +kernel
theorem dL_law_1188 : decode cL_law 1188 = .ok (.iadd, 1) := by decide +kernel
theorem dL_law_1189 : decode cL_law 1189 = .ok (.iaload, 1) := by decide +kernel
theorem dL_law_1190 : decode cL_law 1190 = .ok (.invokevirtual 153, 3) := by decide +kernel
theorem dL_law_1193 : decode cL_law 1193 = .ok (.if_icmp .eq 199, 3) := by decide +kernel
theorem dL_law_1196 : decode cL_law 1196 = .ok (.iconst 0, 1) := by decide +kernel
theorem dL_law_1197 : decode cL_law 1197 = .ok (.ireturn, 1) := by decide +kernel
theorem dL_law_1198 : decode cL_law 1198 = .ok (.aload_n 1, 1) := by decide +kernel
theorem dL_law_1199 : decode cL_law 1199 = .ok (.aload_n 0, 1) := by decide +kernel
theorem dL_law_1200 : decode cL_law 1200 = .ok (.iload_n 3, 1) := by decide +kernel
theorem dL_law_1201 : decode cL_law 1201 = .ok (.iconst 1, 1) := by decide +kernel
theorem dL_law_1202 : decode cL_law 1202 = .ok (.iadd, 1) := by decide +kernel
theorem dL_law_1203 : decode cL_law 1203 = .ok (.iaload, 1) := by decide +kernel
theorem dL_law_1204 : decode cL_law 1204 = .ok (.aload_n 0, 1) := by decide +kernel
theorem dL_law_1205 : decode cL_law 1205 = .ok (.iload_n 3, 1) := by decide +kernel
theorem dL_law_1206 : decode cL_law 1206 = .ok (.iconst 2, 1) := by decide +kernel
theorem dL_law_1207 : decode cL_law 1207 = .ok (.iadd, 1) := by decide +kernel
theorem dL_law_1208 : decode cL_law 1208 = .ok (.iaload, 1) := by decide +kernel
theorem dL_law_1209 : decode cL_law 1209 = .ok (.invokevirtual 154, 3) := by decide +kernel
theorem dL_law_1212 : decode cL_law 1212 = .ok (.aload_n 2, 1) := by decide +kernel
theorem dL_law_1213 : decode cL_law 1213 = .ok (.aload_n 0, 1) := by decide +kernel
theorem dL_law_1214 : decode cL_law 1214 = .ok (.iload_n 3, 1) := by decide +kernel
theorem dL_law_1215 : decode cL_law 1215 = .ok (.iconst 1, 1) := by decide +kernel
theorem dL_law_1216 : decode cL_law 1216 = .ok (.iadd, 1) := by decide +kernel
theorem dL_law_1217 : decode cL_law 1217 = .ok (.iaload, 1) := by decide +kernel
theorem dL_law_1218 : decode cL_law 1218 = .ok (.aload_n 0, 1) := by decide +kernel
theorem dL_law_1219 : decode cL_law 1219 = .ok (.iload_n 3, 1) := by decide +kernel
theorem dL_law_1220 : decode cL_law 1220 = .ok (.iconst 2, 1) := by decide +kernel
theorem dL_law_1221 : decode cL_law 1221 = .ok (.iadd, 1) := by decide +kernel
theorem dL_law_1222 : decode cL_law 1222 = .ok (.iaload, 1) := by decide +kernel
theorem dL_law_1223 : decode cL_law 1223 = .ok (.invokevirtual 157, 3) := by decide +kernel
theorem dL_law_1226 : decode cL_law 1226 = .ok (.if_icmp .eq 166, 3) := by decide +kernel
theorem dL_law_1229 : decode cL_law 1229 = .ok (.iconst 0, 1) := by decide +kernel
theorem dL_law_1230 : decode cL_law 1230 = .ok (.ireturn, 1) := by decide +kernel
theorem dL_law_1231 : decode cL_law 1231 = .ok (.aload_n 1, 1) := by decide +kernel
theorem dL_law_1232 : decode cL_law 1232 = .ok (.aload_n 0, 1) := by decide +kernel
theorem dL_law_1233 : decode cL_law 1233 = .ok (.iload_n 3, 1) := by decide +kernel
theorem dL_law_1234 : decode cL_law 1234 = .ok (.iconst 1, 1) := by decide +kernel
theorem dL_law_1235 : decode cL_law 1235 = .ok (.iadd, 1) := by decide +kernel
theorem dL_law_1236 : decode cL_law 1236 = .ok (.iaload, 1) := by decide +kernel
theorem dL_law_1237 : decode cL_law 1237 = .ok (.aload_n 0, 1) := by decide +kernel
theorem dL_law_1238 : decode cL_law 1238 = .ok (.iload_n 3, 1) := by decide +kernel
theorem dL_law_1239 : decode cL_law 1239 = .ok (.iconst 2, 1) := by decide +kernel
theorem dL_law_1240 : decode cL_law 1240 = .ok (.iadd, 1) := by decide +kernel
theorem dL_law_1241 : decode cL_law 1241 = .ok (.iaload, 1) := by decide +kernel
theorem dL_law_1242 : decode cL_law 1242 = .ok (.invokevirtual 158, 3) := by decide +kernel
theorem dL_law_1245 : decode cL_law 1245 = .ok (.aload_n 2, 1) := by decide +kernel
theorem dL_law_1246 : decode cL_law 1246 = .ok (.aload_n 0, 1) := by decide +kernel
theorem dL_law_1247 : decode cL_law 1247 = .ok (.iload_n 3, 1) := by decide +kernel
theorem dL_law_1248 : decode cL_law 1248 = .ok (.iconst 1, 1) := by decide +kernel
theorem dL_law_1249 : decode cL_law 1249 = .ok (.iadd, 1) := by decide +kernel
theorem dL_law_1250 : decode cL_law 1250 = .ok (.iaload, 1) := by decide +kernel
theorem dL_law_1251 : decode cL_law 1251 = .ok (.aload_n 0, 1) := by decide +kernel
theorem dL_law_1252 : decode cL_law 1252 = .ok (.iload_n 3, 1) := by decide +kernel
theorem dL_law_1253 : decode cL_law 1253 = .ok (.iconst 2, 1) := by decide +kernel
theorem dL_law_1254 : decode cL_law 1254 = .ok (.iadd, 1) := by decide +kernel
theorem dL_law_1255 : decode cL_law 1255 = .ok (.iaload, 1) := by decide +kernel
theorem dL_law_1256 : decode cL_law 1256 = .ok (.invokevirtual 161, 3) := by decide +kernel
theorem dL_law_1259 : decode cL_law 1259 = .ok (.if_icmp .eq 133, 3) := by decide +kernel
theorem dL_law_1262 : decode cL_law 1262 = .ok (.iconst 0, 1) := by decide +kernel
theorem dL_law_1263 : decode cL_law 1263 = .ok (.ireturn, 1) := by decide +kernel
theorem dL_law_1264 : decode cL_law 1264 = .ok (.aload_n 1, 1) := by decide +kernel
theorem dL_law_1265 : decode cL_law 1265 = .ok (.aload_n 0, 1) := by decide +kernel
theorem dL_law_1266 : decode cL_law 1266 = .ok (.iload_n 3, 1) := by decide +kernel
theorem dL_law_1267 : decode cL_law 1267 = .ok (.iconst 1, 1) := by decide +kernel
theorem dL_law_1268 : decode cL_law 1268 = .ok (.iadd, 1) := by decide +kernel
theorem dL_law_1269 : decode cL_law 1269 = .ok (.iaload, 1) := by decide +kernel
theorem dL_law_1270 : decode cL_law 1270 = .ok (.aload_n 0, 1) := by decide +kernel
theorem dL_law_1271 : decode cL_law 1271 = .ok (.iload_n 3, 1) := by decide +kernel
theorem dL_law_1272 : decode cL_law 1272 = .ok (.iconst 2, 1) := by decide +kernel
theorem dL_law_1273 : decode cL_law 1273 = .ok (.iadd, 1) := by decide +kernel
theorem dL_law_1274 : decode cL_law 1274 = .ok (.iaload, 1) := by decide +kernel
theorem dL_law_1275 : decode cL_law 1275 = .ok (.invokevirtual 162, 3) := by decide +kernel
theorem dL_law_1278 : decode cL_law 1278 = .ok (.aload_n 2, 1) := by decide +kernel
theorem dL_law_1279 : decode cL_law 1279 = .ok (.aload_n 0, 1) := by decide +kernel
theorem dL_law_1280 : decode cL_law 1280 = .ok (.iload_n 3, 1) := by decide +kernel
theorem dL_law_1281 : decode cL_law 1281 = .ok (.iconst 1, 1) := by decide +kernel
theorem dL_law_1282 : decode cL_law 1282 = .ok (.iadd, 1) := by decide +kernel
theorem dL_law_1283 : decode cL_law 1283 = .ok (.iaload, 1) := by decide +kernel
theorem dL_law_1284 : decode cL_law 1284 = .ok (.aload_n 0, 1) := by decide +kernel
theorem dL_law_1285 : decode cL_law 1285 = .ok (.iload_n 3, 1) := by decide +kernel
theorem dL_law_1286 : decode cL_law 1286 = .ok (.iconst 2, 1) := by decide +kernel
theorem dL_law_1287 : decode cL_law 1287 = .ok (.iadd, 1) := by decide +kernel
theorem dL_law_1288 : decode cL_law 1288 = .ok (.iaload, 1) := by decide +kernel
theorem dL_law_1289 : decode cL_law 1289 = .ok (.invokevirtual 165, 3) := by decide +kernel
theorem dL_law_1292 : decode cL_law 1292 = .ok (.if_icmp .eq 100, 3) := by decide +kernel
theorem dL_law_1295 : decode cL_law 1295 = .ok (.iconst 0, 1) := by decide +kernel
theorem dL_law_1296 : decode cL_law 1296 = .ok (.ireturn, 1) := by decide +kernel
theorem dL_law_1297 : decode cL_law 1297 = .ok (.aload_n 1, 1) := by decide +kernel
theorem dL_law_1298 : decode cL_law 1298 = .ok (.aload_n 0, 1) := by decide +kernel
theorem dL_law_1299 : decode cL_law 1299 = .ok (.iload_n 3, 1) := by decide +kernel
theorem dL_law_1300 : decode cL_law 1300 = .ok (.iconst 1, 1) := by decide +kernel
theorem dL_law_1301 : decode cL_law 1301 = .ok (.iadd, 1) := by decide +kernel
theorem dL_law_1302 : decode cL_law 1302 = .ok (.iaload, 1) := by decide +kernel
theorem dL_law_1303 : decode cL_law 1303 = .ok (.invokevirtual 166, 3) := by decide +kernel
theorem dL_law_1306 : decode cL_law 1306 = .ok (.aload_n 2, 1) := by decide +kernel
theorem dL_law_1307 : decode cL_law 1307 = .ok (.aload_n 0, 1) := by decide +kernel
theorem dL_law_1308 : decode cL_law 1308 = .ok (.iload_n 3, 1) := by decide +kernel
theorem dL_law_1309 : decode cL_law 1309 = .ok (.iconst 1, 1) := by decide +kernel
theorem dL_law_1310 : decode cL_law 1310 = .ok (.iadd, 1) := by decide +kernel
theorem dL_law_1311 : decode cL_law 1311 = .ok (.iaload, 1) := by decide +kernel
theorem dL_law_1312 : decode cL_law 1312 = .ok (.invokevirtual 169, 3) := by decide +kernel
theorem dL_law_1315 : decode cL_law 1315 = .ok (.if_icmp .eq 77, 3) := by decide +kernel
theorem dL_law_1318 : decode cL_law 1318 = .ok (.iconst 0, 1) := by decide +kernel
theorem dL_law_1319 : decode cL_law 1319 = .ok (.ireturn, 1) := by decide +kernel
theorem dL_law_1320 : decode cL_law 1320 = .ok (.aload_n 1, 1) := by decide +kernel
theorem dL_law_1321 : decode cL_law 1321 = .ok (.aload_n 0, 1) := by decide +kernel
theorem dL_law_1322 : decode cL_law 1322 = .ok (.iload_n 3, 1) := by decide +kernel
theorem dL_law_1323 : decode cL_law 1323 = .ok (.iconst 1, 1) := by decide +kernel
theorem dL_law_1324 : decode cL_law 1324 = .ok (.iadd, 1) := by decide +kernel
theorem dL_law_1325 : decode cL_law 1325 = .ok (.iaload, 1) := by decide +kernel
theorem dL_law_1326 : decode cL_law 1326 = .ok (.invokevirtual 170, 3) := by decide +kernel
theorem dL_law_1329 : decode cL_law 1329 = .ok (.aload_n 2, 1) := by decide +kernel
theorem dL_law_1330 : decode cL_law 1330 = .ok (.aload_n 0, 1) := by decide +kernel
theorem dL_law_1331 : decode cL_law 1331 = .ok (.iload_n 3, 1) := by decide +kernel
theorem dL_law_1332 : decode cL_law 1332 = .ok (.iconst 1, 1) := by decide +kernel
theorem dL_law_1333 : decode cL_law 1333 = .ok (.iadd, 1) := by decide +kernel
theorem dL_law_1334 : decode cL_law 1334 = .ok (.iaload, 1) := by decide +kernel
theorem dL_law_1335 : decode cL_law 1335 = .ok (.invokevirtual 173, 3) := by decide +kernel
theorem dL_law_1338 : decode cL_law 1338 = .ok (.if_icmp .eq 54, 3) := by decide +kernel
theorem dL_law_1341 : decode cL_law 1341 = .ok (.iconst 0, 1) := by decide +kernel
theorem dL_law_1342 : decode cL_law 1342 = .ok (.ireturn, 1) := by decide +kernel
theorem dL_law_1343 : decode cL_law 1343 = .ok (.aload_n 1, 1) := by decide +kernel
theorem dL_law_1344 : decode cL_law 1344 = .ok (.invokevirtual 174, 3) := by decide +kernel
theorem dL_law_1347 : decode cL_law 1347 = .ok (.aload_n 2, 1) := by decide +kernel
theorem dL_law_1348 : decode cL_law 1348 = .ok (.invokevirtual 177, 3) := by decide +kernel
theorem dL_law_1351 : decode cL_law 1351 = .ok (.if_icmp .eq 41, 3) := by decide +kernel
theorem dL_law_1354 : decode cL_law 1354 = .ok (.iconst 0, 1) := by decide +kernel
theorem dL_law_1355 : decode cL_law 1355 = .ok (.ireturn, 1) := by decide +kernel
theorem dL_law_1356 : decode cL_law 1356 = .ok (.aload_n 1, 1) := by decide +kernel
theorem dL_law_1357 : decode cL_law 1357 = .ok (.invokevirtual 178, 3) := by decide +kernel
theorem dL_law_1360 : decode cL_law 1360 = .ok (.aload_n 2, 1) := by decide +kernel
theorem dL_law_1361 : decode cL_law 1361 = .ok (.invokevirtual 181, 3) := by decide +kernel
theorem dL_law_1364 : decode cL_law 1364 = .ok (.if_icmp .eq 28, 3) := by decide +kernel
theorem dL_law_1367 : decode cL_law 1367 = .ok (.iconst 0, 1) := by decide +kernel
theorem dL_law_1368 : decode cL_law 1368 = .ok (.ireturn, 1) := by decide +kernel
theorem dL_law_1369 : decode cL_law 1369 = .ok (.aload_n 1, 1) := by decide +kernel
theorem dL_law_1370 : decode cL_law 1370 = .ok (.aload_n 0, 1) := by decide +kernel
theorem dL_law_1371 : decode cL_law 1371 = .ok (.iload_n 3, 1) := by decide +kernel
theorem dL_law_1372 : decode cL_law 1372 = .ok (.iconst 1, 1) := by decide +kernel
theorem dL_law_1373 : decode cL_law 1373 = .ok (.iadd, 1) := by decide +kernel
theorem dL_law_1374 : decode cL_law 1374 = .ok (.iaload, 1) := by decide +kernel
theorem dL_law_1375 : decode cL_law 1375 = .ok (.invokevirtual 182, 3) := by decide +kernel
theorem dL_law_1378 : decode cL_law 1378 = .ok (.aload_n 2, 1) := by decide +kernel
theorem dL_law_1379 : decode cL_law 1379 = .ok (.aload_n 0, 1) := by decide +kernel
theorem dL_law_1380 : decode cL_law 1380 = .ok (.iload_n 3, 1) := by decide +kernel
theorem dL_law_1381 : decode cL_law 1381 = .ok (.iconst 1, 1) := by decide +kernel
theorem dL_law_1382 : decode cL_law 1382 = .ok (.iadd, 1) := by decide +kernel
theorem dL_law_1383 : decode cL_law 1383 = .ok (.iaload, 1) := by decide +kernel
theorem dL_law_1384 : decode cL_law 1384 = .ok (.invokevirtual 185, 3) := by decide +kernel
theorem dL_law_1387 : decode cL_law 1387 = .ok (.if_icmp .eq 5, 3) := by decide +kernel
theorem dL_law_1390 : decode cL_law 1390 = .ok (.iconst 0, 1) := by decide +kernel
theorem dL_law_1391 : decode cL_law 1391 = .ok (.ireturn, 1) := by decide +kernel
theorem dL_law_1392 : decode cL_law 1392 = .ok (.iinc 3 6, 3) := by decide +kernel
theorem dL_law_1395 : decode cL_law 1395 = .ok (.goto (-1377), 3) := by decide +kernel
theorem dL_law_1398 : decode cL_law 1398 = .ok (.iconst 1, 1) := by decide +kernel
theorem dL_law_1399 : decode cL_law 1399 = .ok (.ireturn, 1) := by decide +kernel
end
section
theorem dX9_init_0 : decode cX9_init 0 = .ok (.aload_n 0, 1) := by decide +kernel
theorem dX9_init_1 : decode cX9_init 1 = .ok (.invokespecial 1, 3) := by decide +kernel
theorem dX9_init_4 : decode cX9_init 4 = .ok (.aload_n 0, 1) := by decide +kernel
theorem dX9_init_5 : decode cX9_init 5 = .ok (.sipush 1444, 3) := by decide +kernel
theorem dX9_init_8 : decode cX9_init 8 = .ok (.newarray .int, 2) := by decide +kernel
theorem dX9_init_10 : decode cX9_init 10 = .ok (.putfield 9, 3) := by decide +kernel
theorem dX9_init_13 : decode cX9_init 13 = .ok (.aload_n 0, 1) := by decide +kernel
theorem dX9_init_14 : decode cX9_init 14 = .ok (.sipush 1444, 3) := by decide +kernel
theorem dX9_init_17 : decode cX9_init 17 = .ok (.newarray .int, 2) := by decide +kernel
theorem dX9_init_19 : decode cX9_init 19 = .ok (.putfield 13, 3) := by decide +kernel
theorem dX9_init_22 : decode cX9_init 22 = .ok (.aload_n 0, 1) := by decide +kernel
theorem dX9_init_23 : decode cX9_init 23 = .ok (.sipush 1444, 3) := by decide +kernel
theorem dX9_init_26 : decode cX9_init 26 = .ok (.newarray .int, 2) := by decide +kernel
theorem dX9_init_28 : decode cX9_init 28 = .ok (.putfield 16, 3) := by decide +kernel
theorem dX9_init_31 : decode cX9_init 31 = .ok (.aload_n 0, 1) := by decide +kernel
theorem dX9_init_32 : decode cX9_init 32 = .ok (.sipush 4096, 3) := by decide +kernel
theorem dX9_init_35 : decode cX9_init 35 = .ok (.newarray .int, 2) := by decide +kernel
theorem dX9_init_37 : decode cX9_init 37 = .ok (.putfield 19, 3) := by decide +kernel
theorem dX9_init_40 : decode cX9_init 40 = .ok (.aload_n 0, 1) := by decide +kernel
theorem dX9_init_41 : decode cX9_init 41 = .ok (.bipush 72, 2) := by decide +kernel
theorem dX9_init_43 : decode cX9_init 43 = .ok (.newarray .int, 2) := by decide +kernel
theorem dX9_init_45 : decode cX9_init 45 = .ok (.putfield 22, 3) := by decide +kernel
theorem dX9_init_48 : decode cX9_init 48 = .ok (.aload_n 0, 1) := by decide +kernel
theorem dX9_init_49 : decode cX9_init 49 = .ok (.bipush 96, 2) := by decide +kernel
theorem dX9_init_51 : decode cX9_init 51 = .ok (.newarray .int, 2) := by decide +kernel
theorem dX9_init_53 : decode cX9_init 53 = .ok (.putfield 25, 3) := by decide +kernel
theorem dX9_init_56 : decode cX9_init 56 = .ok (.aload_n 0, 1) := by decide +kernel
theorem dX9_init_57 : decode cX9_init 57 = .ok (.bipush 11, 2) := by decide +kernel
theorem dX9_init_59 : decode cX9_init 59 = .ok (.newarray .char, 2) := by decide +kernel
theorem dX9_init_61 : decode cX9_init 61 = .ok (.dup, 1) := by decide +kernel
theorem dX9_init_62 : decode cX9_init 62 = .ok (.iconst 0, 1) := by decide +kernel
theorem dX9_init_63 : decode cX9_init 63 = .ok (.bipush 102, 2) := by decide +kernel
theorem dX9_init_65 : decode cX9_init 65 = .ok (.castore, 1) := by decide +kernel
theorem dX9_init_66 : decode cX9_init 66 = .ok (.dup, 1) := by decide +kernel
theorem dX9_init_67 : decode cX9_init 67 = .ok (.iconst 1, 1) := by decide +kernel
theorem dX9_init_68 : decode cX9_init 68 = .ok (.bipush 97, 2) := by decide +kernel
theorem dX9_init_70 : decode cX9_init 70 = .ok (.castore, 1) := by decide +kernel
theorem dX9_init_71 : decode cX9_init 71 = .ok (.dup, 1) := by decide +kernel
theorem dX9_init_72 : decode cX9_init 72 = .ok (.iconst 2, 1) := by decide +kernel
theorem dX9_init_73 : decode cX9_init 73 = .ok (.bipush 114, 2) := by decide +kernel
theorem dX9_init_75 : decode cX9_init 75 = .ok (.castore, 1) := by decide +kernel
theorem dX9_init_76 : decode cX9_init 76 = .ok (.dup, 1) := by decide +kernel
theorem dX9_init_77 : decode cX9_init 77 = .ok (.iconst 3, 1) := by decide +kernel
theorem dX9_init_78 : decode cX9_init 78 = .ok (.bipush 101, 2) := by decide +kernel
theorem dX9_init_80 : decode cX9_init 80 = .ok (.castore, 1) := by decide +kernel
theorem dX9_init_81 : decode cX9_init 81 = .ok (.dup, 1) := by decide +kernel
theorem dX9_init_82 : decode cX9_init 82 = .ok (.iconst 4, 1) := by decide +kernel
theorem dX9_init_83 : decode cX9_init 83 = .ok (.bipush 102, 2) := by decide +kernel
theorem dX9_init_85 : decode cX9_init 85 = .ok (.castore, 1) := by decide +kernel
theorem dX9_init_86 : decode cX9_init 86 = .ok (.dup, 1) := by decide +kernel
theorem dX9_init_87 : decode cX9_init 87 = .ok (.iconst 5, 1) := by decide +kernel
theorem dX9_init_88 : decode cX9_init 88 = .ok (.bipush 101, 2) := by decide +kernel
theorem dX9_init_90 : decode cX9_init 90 = .ok (.castore, 1) := by decide +kernel
theorem dX9_init_91 : decode cX9_init 91 = .ok (.dup, 1) := by decide +kernel
theorem dX9_init_92 : decode cX9_init 92 = .ok (.bipush 6, 2) := by decide +kernel
theorem dX9_init_94 : decode cX9_init 94 = .ok (.bipush 101, 2) := by decide +kernel
theorem dX9_init_96 : decode cX9_init 96 = .ok (.castore, 1) := by decide +kernel
theorem dX9_init_97 : decode cX9_init 97 = .ok (.dup, 1) := by decide +kernel
theorem dX9_init_98 : decode cX9_init 98 = .ok (.bipush 7, 2) := by decide +kernel
theorem dX9_init_100 : decode cX9_init 100 = .ok (.bipush 102, 2) := by decide +kernel
theorem dX9_init_102 : decode cX9_init 102 = .ok (.castore, 1) := by decide +kernel
theorem dX9_init_103 : decode cX9_init 103 = .ok (.dup, 1) := by decide +kernel
theorem dX9_init_104 : decode cX9_init 104 = .ok (.bipush 8, 2) := by decide +kernel
theorem dX9_init_106 : decode cX9_init 106 = .ok (.bipush 105, 2) := by decide +kernel
theorem dX9_init_108 : decode cX9_init 108 = .ok (.castore, 1) := by decide +kernel
theorem dX9_init_109 : decode cX9_init 109 = .ok (.dup, 1) := by decide +kernel
theorem dX9_init_110 : decode cX9_init 110 = .ok (.bipush 9, 2) := by decide +kernel
theorem dX9_init_112 : decode cX9_init 112 = .ok (.bipush 110, 2) := by decide +kernel
theorem dX9_init_114 : decode cX9_init 114 = .ok (.castore, 1) := by decide +kernel
theorem dX9_init_115 : decode cX9_init 115 = .ok (.dup, 1) := by decide +kernel
theorem dX9_init_116 : decode cX9_init 116 = .ok (.bipush 10, 2) := by decide +kernel
theorem dX9_init_118 : decode cX9_init 118 = .ok (.bipush 101, 2) := by decide +kernel
theorem dX9_init_120 : decode cX9_init 120 = .ok (.castore, 1) := by decide +kernel
theorem dX9_init_121 : decode cX9_init 121 = .ok (.putfield 28, 3) := by decide +kernel
theorem dX9_init_124 : decode cX9_init 124 = .ok (.aload_n 0, 1) := by decide +kernel
theorem dX9_init_125 : decode cX9_init 125 = .ok (.iconst 4, 1) := by decide +kernel
theorem dX9_init_126 : decode cX9_init 126 = .ok (.newarray .int, 2) := by decide +kernel
theorem dX9_init_128 : decode cX9_init 128 = .ok (.dup, 1) := by decide +kernel
theorem dX9_init_129 : decode cX9_init 129 = .ok (.iconst 0, 1) := by decide +kernel
theorem dX9_init_130 : decode cX9_init 130 = .ok (.iconst 0, 1) := by decide +kernel
theorem dX9_init_131 : decode cX9_init 131 = .ok (.iastore, 1) := by decide +kernel
theorem dX9_init_132 : decode cX9_init 132 = .ok (.dup, 1) := by decide +kernel
theorem dX9_init_133 : decode cX9_init 133 = .ok (.iconst 1, 1) := by decide +kernel
theorem dX9_init_134 : decode cX9_init 134 = .ok (.iconst 4, 1) := by decide +kernel
theorem dX9_init_135 : decode cX9_init 135 = .ok (.iastore, 1) := by decide +kernel
theorem dX9_init_136 : decode cX9_init 136 = .ok (.dup, 1) := by decide +kernel
theorem dX9_init_137 : decode cX9_init 137 = .ok (.iconst 2, 1) := by decide +kernel
theorem dX9_init_138 : decode cX9_init 138 = .ok (.bipush 7, 2) := by decide +kernel
theorem dX9_init_140 : decode cX9_init 140 = .ok (.iastore, 1) := by decide +kernel
theorem dX9_init_141 : decode cX9_init 141 = .ok (.dup, 1) := by decide +kernel
theorem dX9_init_142 : decode cX9_init 142 = .ok (.iconst 3, 1) := by decide +kernel
theorem dX9_init_143 : decode cX9_init 143 = .ok (.bipush 11, 2) := by decide +kernel
theorem dX9_init_145 : decode cX9_init 145 = .ok (.iastore, 1) := by decide +kernel
theorem dX9_init_146 : decode cX9_init 146 = .ok (.putfield 32, 3) := by decide +kernel
theorem dX9_init_149 : decode cX9_init 149 = .ok (.aload_n 0, 1) := by decide +kernel
theorem dX9_init_150 : decode cX9_init 150 = .ok (.bipush 96, 2) := by decide +kernel
theorem dX9_init_152 : decode cX9_init 152 = .ok (.newarray .int, 2) := by decide +kernel
theorem dX9_init_154 : decode cX9_init 154 = .ok (.putfield 35, 3) := by decide +kernel
theorem dX9_init_157 : decode cX9_init 157 = .ok (.aload_n 0, 1) := by decide +kernel
theorem dX9_init_158 : decode cX9_init 158 = .ok (.bipush 96, 2) := by decide +kernel
theorem dX9_init_160 : decode cX9_init 160 = .ok (.newarray .int, 2) := by decide +kernel
theorem dX9_init_162 : decode cX9_init 162 = .ok (.putfield 38, 3) := by decide +kernel
theorem dX9_init_165 : decode cX9_init 165 = .ok (.aload_n 0, 1) := by decide +kernel
theorem dX9_init_166 : decode cX9_init 166 = .ok (.bipush 10, 2) := by decide +kernel
theorem dX9_init_168 : decode cX9_init 168 = .ok (.newarray .boolean, 2) := by decide +kernel
theorem dX9_init_170 : decode cX9_init 170 = .ok (.putfield 41, 3) := by decide +kernel
theorem dX9_init_173 : decode cX9_init 173 = .ok (.aload_n 0, 1) := by decide +kernel
theorem dX9_init_174 : decode cX9_init 174 = .ok (.bipush 96, 2) := by decide +kernel
theorem dX9_init_176 : decode cX9_init 176 = .ok (.newarray .int, 2) := by decide +kernel
theorem dX9_init_178 : decode cX9_init 178 = .ok (.putfield 45, 3) := by decide +kernel
theorem dX9_init_181 : decode cX9_init 181 = .ok (.aload_n 0, 1) := by decide +kernel
theorem dX9_init_182 : decode cX9_init 182 = .ok (.iconst 4, 1) := by decide +kernel
theorem dX9_init_183 : decode cX9_init 183 = .ok (.newarray .int, 2) := by decide +kernel
theorem dX9_init_185 : decode cX9_init 185 = .ok (.putfield 48, 3) := by decide +kernel
theorem dX9_init_188 : decode cX9_init 188 = .ok (.aload_n 0, 1) := by decide +kernel
theorem dX9_init_189 : decode cX9_init 189 = .ok (.iconst 4, 1) := by decide +kernel
theorem dX9_init_190 : decode cX9_init 190 = .ok (.newarray .int, 2) := by decide +kernel
theorem dX9_init_192 : decode cX9_init 192 = .ok (.dup, 1) := by decide +kernel
theorem dX9_init_193 : decode cX9_init 193 = .ok (.iconst 0, 1) := by decide +kernel
theorem dX9_init_194 : decode cX9_init 194 = .ok (.iconst (-1), 1) := by decide +kernel
theorem dX9_init_195 : decode cX9_init 195 = .ok (.iastore, 1) := by decide +kernel
theorem dX9_init_196 : decode cX9_init 196 = .ok (.dup, 1) := by decide +kernel
theorem dX9_init_197 : decode cX9_init 197 = .ok (.iconst 1, 1) := by decide +kernel
theorem dX9_init_198 : decode cX9_init 198 = .ok (.iconst (-1), 1) := by decide +kernel
theorem dX9_init_199 : decode cX9_init 199 = .ok (.iastore, 1) := by decide +kernel
theorem dX9_init_200 : decode cX9_init 200 = .ok (.dup, 1) := by decide +kernel
theorem dX9_init_201 : decode cX9_init 201 = .ok (.iconst 2, 1) := by decide +kernel
theorem dX9_init_202 : decode cX9_init 202 = .ok (.iconst (-1), 1) := by decide +kernel
theorem dX9_init_203 : decode cX9_init 203 = .ok (.iastore, 1) := by decide +kernel
theorem dX9_init_204 : decode cX9_init 204 = .ok (.dup, 1) := by decide +kernel
theorem dX9_init_205 : decode cX9_init 205 = .ok (.iconst 3, 1) := by decide +kernel
theorem dX9_init_206 : decode cX9_init 206 = .ok (.iconst (-1), 1) := by decide +kernel
theorem dX9_init_207 : decode cX9_init 207 = .ok (.iastore, 1) := by decide +kernel
theorem dX9_init_208 : decode cX9_init 208 = .ok (.putfield 51, 3) := by decide +kernel
theorem dX9_init_211 : decode cX9_init 211 = .ok (.aload_n 0, 1) := by decide +kernel
theorem dX9_init_212 : decode cX9_init 212 = .ok (.iconst 4, 1) := by decide +kernel
theorem dX9_init_213 : decode cX9_init 213 = .ok (.newarray .int, 2) := by decide +kernel
theorem dX9_init_215 : decode cX9_init 215 = .ok (.putfield 54, 3) := by decide +kernel
theorem dX9_init_218 : decode cX9_init 218 = .ok (.aload_n 0, 1) := by decide +kernel
theorem dX9_init_219 : decode cX9_init 219 = .ok (.bipush 96, 2) := by decide +kernel
theorem dX9_init_221 : decode cX9_init 221 = .ok (.newarray .int, 2) := by decide +kernel
theorem dX9_init_223 : decode cX9_init 223 = .ok (.putfield 57, 3) := by decide +kernel
theorem dX9_init_226 : decode cX9_init 226 = .ok (.aload_n 0, 1) := by decide +kernel
theorem dX9_init_227 : decode cX9_init 227 = .ok (.iconst 5, 1) := by decide +kernel
theorem dX9_init_228 : decode cX9_init 228 = .ok (.newarray .int, 2) := by decide +kernel
theorem dX9_init_230 : decode cX9_init 230 = .ok (.putfield 60, 3) := by decide +kernel
theorem dX9_init_233 : decode cX9_init 233 = .ok (.aload_n 0, 1) := by decide +kernel
theorem dX9_init_234 : decode cX9_init 234 = .ok (.iconst 5, 1) := by decide +kernel
theorem dX9_init_235 : decode cX9_init 235 = .ok (.newarray .int, 2) := by decide +kernel
theorem dX9_init_237 : decode cX9_init 237 = .ok (.putfield 63, 3) := by decide +kernel
theorem dX9_init_240 : decode cX9_init 240 = .ok (.aload_n 0, 1) := by decide +kernel
theorem dX9_init_241 : decode cX9_init 241 = .ok (.iconst 5, 1) := by decide +kernel
theorem dX9_init_242 : decode cX9_init 242 = .ok (.newarray .int, 2) := by decide +kernel
theorem dX9_init_244 : decode cX9_init 244 = .ok (.putfield 66, 3) := by decide +kernel
theorem dX9_init_247 : decode cX9_init 247 = .ok (.aload_n 0, 1) := by decide +kernel
theorem dX9_init_248 : decode cX9_init 248 = .ok (.bipush 120, 2) := by decide +kernel
theorem dX9_init_250 : decode cX9_init 250 = .ok (.newarray .int, 2) := by decide +kernel
theorem dX9_init_252 : decode cX9_init 252 = .ok (.putfield 69, 3) := by decide +kernel
theorem dX9_init_255 : decode cX9_init 255 = .ok (.aload_n 0, 1) := by decide +kernel
theorem dX9_init_256 : decode cX9_init 256 = .ok (.bipush 24, 2) := by decide +kernel
theorem dX9_init_258 : decode cX9_init 258 = .ok (.newarray .int, 2) := by decide +kernel
theorem dX9_init_260 : decode cX9_init 260 = .ok (.putfield 72, 3) := by decide +kernel
theorem dX9_init_263 : decode cX9_init 263 = .ok (.aload_n 0, 1) := by decide +kernel
theorem dX9_init_264 : decode cX9_init 264 = .ok (.bipush 60, 2) := by decide +kernel
theorem dX9_init_266 : decode cX9_init 266 = .ok (.newarray .int, 2) := by decide +kernel
theorem dX9_init_268 : decode cX9_init 268 = .ok (.putfield 75, 3) := by decide +kernel
theorem dX9_init_271 : decode cX9_init 271 = .ok (.aload_n 0, 1) := by decide +kernel
theorem dX9_init_272 : decode cX9_init 272 = .ok (.getfield 9, 3) := by decide +kernel
theorem dX9_init_275 : decode cX9_init 275 = .ok (.iconst 0, 1) := by decide +kernel
theorem dX9_init_276 : decode cX9_init 276 = .ok (.iconst 1, 1) := by decide +kernel
theorem dX9_init_277 : decode cX9_init 277 = .ok (.iastore, 1) := by decide +kernel
theorem dX9_init_278 : decode cX9_init 278 = .ok (.aload_n 0, 1) := by decide +kernel
theorem dX9_init_279 : decode cX9_init 279 = .ok (.getfield 9, 3) := by decide +kernel
theorem dX9_init_282 : decode cX9_init 282 = .ok (.iconst 2, 1) := by decide +kernel
theorem dX9_init_283 : decode cX9_init 283 = .ok (.bipush 9, 2) := by decide +kernel
theorem dX9_init_285 : decode cX9_init 285 = .ok (.iastore, 1) := by decide +kernel
theorem dX9_init_286 : decode cX9_init 286 = .ok (.aload_n 0, 1) := by decide +kernel
theorem dX9_init_287 : decode cX9_init 287 = .ok (.getfield 9, 3) := by decide +kernel
theorem dX9_init_290 : decode cX9_init 290 = .ok (.bipush 6, 2) := by decide +kernel
theorem dX9_init_292 : decode cX9_init 292 = .ok (.iconst 1, 1) := by decide +kernel
theorem dX9_init_293 : decode cX9_init 293 = .ok (.iastore, 1) := by decide +kernel
theorem dX9_init_294 : decode cX9_init 294 = .ok (.aload_n 0, 1) := by decide +kernel
theorem dX9_init_295 : decode cX9_init 295 = .ok (.getfield 9, 3) := by decide +kernel
theorem dX9_init_298 : decode cX9_init 298 = .ok (.bipush 8, 2) := by decide +kernel
theorem dX9_init_300 : decode cX9_init 300 = .ok (.bipush 50, 2) := by decide +kernel
theorem dX9_init_302 : decode cX9_init 302 = .ok (.iastore, 1) := by decide +kernel
theorem dX9_init_303 : decode cX9_init 303 = .ok (.aload_n 0, 1) := by decide +kernel
theorem dX9_init_304 : decode cX9_init 304 = .ok (.getfield 9, 3) := by decide +kernel
theorem dX9_init_307 : decode cX9_init 307 = .ok (.bipush 9, 2) := by decide +kernel
theorem dX9_init_309 : decode cX9_init 309 = .ok (.bipush 10, 2) := by decide +kernel
theorem dX9_init_311 : decode cX9_init 311 = .ok (.iastore, 1) := by decide +kernel
theorem dX9_init_312 : decode cX9_init 312 = .ok (.return_, 1) := by decide +kernel
theorem dX9_in_0 : decode cX9_in 0 = .ok (.iload_n 0, 1) := by decide +kernel
theorem dX9_in_1 : decode cX9_in 1 = .ok (.iload_n 1, 1) := by decide +kernel
theorem dX9_in_2 : decode cX9_in 2 = .ok (.if_icmp .lt 12, 3) := by decide +kernel
theorem dX9_in_5 : decode cX9_in 5 = .ok (.iload_n 0, 1) := by decide +kernel
theorem dX9_in_6 : decode cX9_in 6 = .ok (.iload_n 2, 1) := by decide +kernel
theorem dX9_in_7 : decode cX9_in 7 = .ok (.if_icmp .gt 7, 3) := by decide +kernel
theorem dX9_in_10 : decode cX9_in 10 = .ok (.iconst 1, 1) := by decide +kernel
theorem dX9_in_11 : decode cX9_in 11 = .ok (.goto 4, 3) := by decide +kernel
theorem dX9_in_14 : decode cX9_in 14 = .ok (.iconst 0, 1) := by decide +kernel
theorem dX9_in_15 : decode cX9_in 15 = .ok (.ireturn, 1) := by decide +kernel
theorem dX9_within_0 : decode cX9_within 0 = .ok (.iload_n 0, 1) := by decide +kernel
theorem dX9_within_1 : decode cX9_within 1 = .ok (.iload_n 1, 1) := by decide +kernel
theorem dX9_within_2 : decode cX9_within 2 = .ok (.if_icmp .ge 7, 3) := by decide +kernel
theorem dX9_within_5 : decode cX9_within 5 = .ok (.iload_n 1, 1) := by decide +kernel
theorem dX9_within_6 : decode cX9_within 6 = .ok (.goto 13, 3) := by decide +kernel
theorem dX9_within_9 : decode cX9_within 9 = .ok (.iload_n 0, 1) := by decide +kernel
theorem dX9_within_10 : decode cX9_within 10 = .ok (.iload_n 2, 1) := by decide +kernel
theorem dX9_within_11 : decode cX9_within 11 = .ok (.if_icmp .le 7, 3) := by decide +kernel
theorem dX9_within_14 : decode cX9_within 14 = .ok (.iload_n 2, 1) := by decide +kernel
theorem dX9_within_15 : decode cX9_within 15 = .ok (.goto 4, 3) := by decide +kernel
theorem dX9_within_18 : decode cX9_within 18 = .ok (.iload_n 0, 1) := by decide +kernel
theorem dX9_within_19 : decode cX9_within 19 = .ok (.ireturn, 1) := by decide +kernel
theorem dX9_copyAll_0 : decode cX9_copyAll 0 = .ok (.iconst 0, 1) := by decide +kernel
theorem dX9_copyAll_1 : decode cX9_copyAll 1 = .ok (.istore_n 2, 1) := by decide +kernel
theorem dX9_copyAll_2 : decode cX9_copyAll 2 = .ok (.iload_n 2, 1) := by decide +kernel
theorem dX9_copyAll_3 : decode cX9_copyAll 3 = .ok (.sipush 1444, 3) := by decide +kernel
theorem dX9_copyAll_6 : decode cX9_copyAll 6 = .ok (.if_icmp .ge 15, 3) := by decide +kernel
theorem dX9_copyAll_9 : decode cX9_copyAll 9 = .ok (.aload_n 1, 1) := by decide +kernel
theorem dX9_copyAll_10 : decode cX9_copyAll 10 = .ok (.iload_n 2, 1) := by decide +kernel
theorem dX9_copyAll_11 : decode cX9_copyAll 11 = .ok (.aload_n 0, 1) := by decide +kernel
theorem dX9_copyAll_12 : decode cX9_copyAll 12 = .ok (.iload_n 2, 1) := by decide +kernel
theorem dX9_copyAll_13 : decode cX9_copyAll 13 = .ok (.iaload, 1) := by decide +kernel
theorem dX9_copyAll_14 : decode cX9_copyAll 14 = .ok (.iastore, 1) := by decide +kernel
theorem dX9_copyAll_15 : decode cX9_copyAll 15 = .ok (.iinc 2 1, 3) := by decide +kernel
theorem dX9_copyAll_18 : decode cX9_copyAll 18 = .ok (.goto (-16), 3) := by decide +kernel
theorem dX9_copyAll_21 : decode cX9_copyAll 21 = .ok (.return_, 1) := by decide +kernel
theorem dX9_told0_0 : decode cX9_told0 0 = .ok (.iload_n 0, 1) := by decide +kernel
theorem dX9_told0_1 : decode cX9_told0 1 = .ok (.ifCond .ge 8, 3) := by decide +kernel
theorem dX9_told0_4 : decode cX9_told0 4 = .ok (.ldc 78, 2) := by decide +kernel
theorem dX9_told0_6 : decode cX9_told0 6 = .ok (.goto 4, 3) := by decide +kernel
theorem dX9_told0_9 : decode cX9_told0 9 = .ok (.iload_n 0, 1) := by decide +kernel
theorem dX9_told0_10 : decode cX9_told0 10 = .ok (.ireturn, 1) := by decide +kernel
theorem dX9_isSitter_0 : decode cX9_isSitter 0 = .ok (.iload_n 1, 1) := by decide +kernel
theorem dX9_isSitter_1 : decode cX9_isSitter 1 = .ok (.iconst 0, 1) := by decide +kernel
theorem dX9_isSitter_2 : decode cX9_isSitter 2 = .ok (.aload_n 0, 1) := by decide +kernel
theorem dX9_isSitter_3 : decode cX9_isSitter 3 = .ok (.getfield 9, 3) := by decide +kernel
theorem dX9_isSitter_6 : decode cX9_isSitter 6 = .ok (.iconst 1, 1) := by decide +kernel
theorem dX9_isSitter_7 : decode cX9_isSitter 7 = .ok (.iaload, 1) := by decide +kernel
theorem dX9_isSitter_8 : decode cX9_isSitter 8 = .ok (.iconst 1, 1) := by decide +kernel
theorem dX9_isSitter_9 : decode cX9_isSitter 9 = .ok (.isub, 1) := by decide +kernel
theorem dX9_isSitter_10 : decode cX9_isSitter 10 = .ok (.invokestatic 79, 3) := by decide +kernel
theorem dX9_isSitter_13 : decode cX9_isSitter 13 = .ok (.ireturn, 1) := by decide +kernel
theorem dX9_isPlace_0 : decode cX9_isPlace 0 = .ok (.iload_n 1, 1) := by decide +kernel
theorem dX9_isPlace_1 : decode cX9_isPlace 1 = .ok (.iconst 0, 1) := by decide +kernel
theorem dX9_isPlace_2 : decode cX9_isPlace 2 = .ok (.aload_n 0, 1) := by decide +kernel
theorem dX9_isPlace_3 : decode cX9_isPlace 3 = .ok (.getfield 9, 3) := by decide +kernel
theorem dX9_isPlace_6 : decode cX9_isPlace 6 = .ok (.iconst 2, 1) := by decide +kernel
theorem dX9_isPlace_7 : decode cX9_isPlace 7 = .ok (.iaload, 1) := by decide +kernel
theorem dX9_isPlace_8 : decode cX9_isPlace 8 = .ok (.iconst 1, 1) := by decide +kernel
theorem dX9_isPlace_9 : decode cX9_isPlace 9 = .ok (.isub, 1) := by decide +kernel
theorem dX9_isPlace_10 : decode cX9_isPlace 10 = .ok (.invokestatic 79, 3) := by decide +kernel
theorem dX9_isPlace_13 : decode cX9_isPlace 13 = .ok (.ireturn, 1) := by decide +kernel
theorem dX9_of_0 : decode cX9_of 0 = .ok (.aload_n 0, 1) := by decide +kernel
theorem dX9_of_1 : decode cX9_of 1 = .ok (.getfield 9, 3) := by decide +kernel
theorem dX9_of_4 : decode cX9_of 4 = .ok (.bipush 24, 2) := by decide +kernel
theorem dX9_of_6 : decode cX9_of 6 = .ok (.iconst 4, 1) := by decide +kernel
theorem dX9_of_7 : decode cX9_of 7 = .ok (.iload_n 1, 1) := by decide +kernel
theorem dX9_of_8 : decode cX9_of 8 = .ok (.imul, 1) := by decide +kernel
theorem dX9_of_9 : decode cX9_of 9 = .ok (.iadd, 1) := by decide +kernel
theorem dX9_of_10 : decode cX9_of 10 = .ok (.iload_n 2, 1) := by decide +kernel
theorem dX9_of_11 : decode cX9_of 11 = .ok (.iadd, 1) := by decide +kernel
theorem dX9_of_12 : decode cX9_of 12 = .ok (.iaload, 1) := by decide +kernel
theorem dX9_of_13 : decode cX9_of 13 = .ok (.ireturn, 1) := by decide +kernel
theorem dX9_put_0 : decode cX9_put 0 = .ok (.aload_n 0, 1) := by decide +kernel
theorem dX9_put_1 : decode cX9_put 1 = .ok (.getfield 9, 3) := by decide +kernel
theorem dX9_put_4 : decode cX9_put 4 = .ok (.bipush 24, 2) := by decide +kernel
theorem dX9_put_6 : decode cX9_put 6 = .ok (.iconst 4, 1) := by decide +kernel
theorem dX9_put_7 : decode cX9_put 7 = .ok (.iload_n 1, 1) := by decide +kernel
theorem dX9_put_8 : decode cX9_put 8 = .ok (.imul, 1) := by decide +kernel
theorem dX9_put_9 : decode cX9_put 9 = .ok (.iadd, 1) := by decide +kernel
theorem dX9_put_10 : decode cX9_put 10 = .ok (.iload_n 2, 1) := by decide +kernel
theorem dX9_put_11 : decode cX9_put 11 = .ok (.iadd, 1) := by decide +kernel
theorem dX9_put_12 : decode cX9_put 12 = .ok (.iload_n 3, 1) := by decide +kernel
theorem dX9_put_13 : decode cX9_put 13 = .ok (.iastore, 1) := by decide +kernel
theorem dX9_put_14 : decode cX9_put 14 = .ok (.return_, 1) := by decide +kernel
theorem dX9_becomes_0 : decode cX9_becomes 0 = .ok (.aload_n 0, 1) := by decide +kernel
theorem dX9_becomes_1 : decode cX9_becomes 1 = .ok (.getfield 9, 3) := by decide +kernel
theorem dX9_becomes_4 : decode cX9_becomes 4 = .ok (.iload_n 1, 1) := by decide +kernel
theorem dX9_becomes_5 : decode cX9_becomes 5 = .ok (.iaload, 1) := by decide +kernel
theorem dX9_becomes_6 : decode cX9_becomes 6 = .ok (.istore_n 3, 1) := by decide +kernel
theorem dX9_becomes_7 : decode cX9_becomes 7 = .ok (.aload_n 0, 1) := by decide +kernel
theorem dX9_becomes_8 : decode cX9_becomes 8 = .ok (.getfield 9, 3) := by decide +kernel
theorem dX9_becomes_11 : decode cX9_becomes 11 = .ok (.iload_n 1, 1) := by decide +kernel
theorem dX9_becomes_12 : decode cX9_becomes 12 = .ok (.iload_n 2, 1) := by decide +kernel
theorem dX9_becomes_13 : decode cX9_becomes 13 = .ok (.iastore, 1) := by decide +kernel
theorem dX9_becomes_14 : decode cX9_becomes 14 = .ok (.iload_n 3, 1) := by decide +kernel
theorem dX9_becomes_15 : decode cX9_becomes 15 = .ok (.ireturn, 1) := by decide +kernel
theorem dX9_isBroad_0 : decode cX9_isBroad 0 = .ok (.iload_n 0, 1) := by decide +kernel
theorem dX9_isBroad_1 : decode cX9_isBroad 1 = .ok (.iconst 1, 1) := by decide +kernel
theorem dX9_isBroad_2 : decode cX9_isBroad 2 = .ok (.if_icmp .eq 8, 3) := by decide +kernel
theorem dX9_isBroad_5 : decode cX9_isBroad 5 = .ok (.iload_n 0, 1) := by decide +kernel
theorem dX9_isBroad_6 : decode cX9_isBroad 6 = .ok (.iconst 3, 1) := by decide +kernel
theorem dX9_isBroad_7 : decode cX9_isBroad 7 = .ok (.if_icmp .ne 7, 3) := by decide +kernel
theorem dX9_isBroad_10 : decode cX9_isBroad 10 = .ok (.iconst 1, 1) := by decide +kernel
theorem dX9_isBroad_11 : decode cX9_isBroad 11 = .ok (.goto 4, 3) := by decide +kernel
theorem dX9_isBroad_14 : decode cX9_isBroad 14 = .ok (.iconst 0, 1) := by decide +kernel
theorem dX9_isBroad_15 : decode cX9_isBroad 15 = .ok (.ireturn, 1) := by decide +kernel
theorem dX9_isFriend_0 : decode cX9_isFriend 0 = .ok (.iload_n 0, 1) := by decide +kernel
theorem dX9_isFriend_1 : decode cX9_isFriend 1 = .ok (.iconst 2, 1) := by decide +kernel
theorem dX9_isFriend_2 : decode cX9_isFriend 2 = .ok (.if_icmp .eq 8, 3) := by decide +kernel
theorem dX9_isFriend_5 : decode cX9_isFriend 5 = .ok (.iload_n 0, 1) := by decide +kernel
theorem dX9_isFriend_6 : decode cX9_isFriend 6 = .ok (.iconst 4, 1) := by decide +kernel
theorem dX9_isFriend_7 : decode cX9_isFriend 7 = .ok (.if_icmp .ne 7, 3) := by decide +kernel
theorem dX9_isFriend_10 : decode cX9_isFriend 10 = .ok (.iconst 1, 1) := by decide +kernel
theorem dX9_isFriend_11 : decode cX9_isFriend 11 = .ok (.goto 4, 3) := by decide +kernel
theorem dX9_isFriend_14 : decode cX9_isFriend 14 = .ok (.iconst 0, 1) := by decide +kernel
theorem dX9_isFriend_15 : decode cX9_isFriend 15 = .ok (.ireturn, 1) := by decide +kernel
theorem dX9_setAt_0 : decode cX9_setAt 0 = .ok (.iload_n 1, 1) := by decide +kernel
theorem dX9_setAt_1 : decode cX9_setAt 1 = .ok (.invokestatic 83, 3) := by decide +kernel
theorem dX9_setAt_4 : decode cX9_setAt 4 = .ok (.ifCond .ne 7, 3) := by decide +kernel
theorem dX9_setAt_7 : decode cX9_setAt 7 = .ok (.iconst 1, 1) := by decide +kernel
theorem dX9_setAt_8 : decode cX9_setAt 8 = .ok (.iload_n 2, 1) := by decide +kernel
theorem dX9_setAt_9 : decode cX9_setAt 9 = .ok (.ishl, 1) := by decide +kernel
theorem dX9_setAt_10 : decode cX9_setAt 10 = .ok (.ireturn, 1) := by decide +kernel
theorem dX9_setAt_11 : decode cX9_setAt 11 = .ok (.aload_n 0, 1) := by decide +kernel
theorem dX9_setAt_12 : decode cX9_setAt 12 = .ok (.getfield 9, 3) := by decide +kernel
theorem dX9_setAt_15 : decode cX9_setAt 15 = .ok (.iconst 3, 1) := by decide +kernel
theorem dX9_setAt_16 : decode cX9_setAt 16 = .ok (.iaload, 1) := by decide +kernel
theorem dX9_setAt_17 : decode cX9_setAt 17 = .ok (.iconst 1, 1) := by decide +kernel
theorem dX9_setAt_18 : decode cX9_setAt 18 = .ok (.if_icmp .ne 16, 3) := by decide +kernel
theorem dX9_setAt_21 : decode cX9_setAt 21 = .ok (.iload_n 2, 1) := by decide +kernel
theorem dX9_setAt_22 : decode cX9_setAt 22 = .ok (.iconst 1, 1) := by decide +kernel
theorem dX9_setAt_23 : decode cX9_setAt 23 = .ok (.iadd, 1) := by decide +kernel
theorem dX9_setAt_24 : decode cX9_setAt 24 = .ok (.aload_n 0, 1) := by decide +kernel
theorem dX9_setAt_25 : decode cX9_setAt 25 = .ok (.getfield 9, 3) := by decide +kernel
theorem dX9_setAt_28 : decode cX9_setAt 28 = .ok (.iconst 2, 1) := by decide +kernel
theorem dX9_setAt_29 : decode cX9_setAt 29 = .ok (.iaload, 1) := by decide +kernel
theorem dX9_setAt_30 : decode cX9_setAt 30 = .ok (.irem, 1) := by decide +kernel
theorem dX9_setAt_31 : decode cX9_setAt 31 = .ok (.goto 6, 3) := by decide +kernel
theorem dX9_setAt_34 : decode cX9_setAt 34 = .ok (.iload_n 2, 1) := by decide +kernel
theorem dX9_setAt_35 : decode cX9_setAt 35 = .ok (.iconst 1, 1) := by decide +kernel
theorem dX9_setAt_36 : decode cX9_setAt 36 = .ok (.iadd, 1) := by decide +kernel
theorem dX9_setAt_37 : decode cX9_setAt 37 = .ok (.istore_n 3, 1) := by decide +kernel
theorem dX9_setAt_38 : decode cX9_setAt 38 = .ok (.iload_n 3, 1) := by decide +kernel
theorem dX9_setAt_39 : decode cX9_setAt 39 = .ok (.aload_n 0, 1) := by decide +kernel
theorem dX9_setAt_40 : decode cX9_setAt 40 = .ok (.getfield 9, 3) := by decide +kernel
theorem dX9_setAt_43 : decode cX9_setAt 43 = .ok (.iconst 2, 1) := by decide +kernel
theorem dX9_setAt_44 : decode cX9_setAt 44 = .ok (.iaload, 1) := by decide +kernel
theorem dX9_setAt_45 : decode cX9_setAt 45 = .ok (.if_icmp .eq 8, 3) := by decide +kernel
theorem dX9_setAt_48 : decode cX9_setAt 48 = .ok (.iload_n 3, 1) := by decide +kernel
theorem dX9_setAt_49 : decode cX9_setAt 49 = .ok (.iload_n 2, 1) := by decide +kernel
theorem dX9_setAt_50 : decode cX9_setAt 50 = .ok (.if_icmp .ne 7, 3) := by decide +kernel
theorem dX9_setAt_53 : decode cX9_setAt 53 = .ok (.iconst (-1), 1) := by decide +kernel
theorem dX9_setAt_54 : decode cX9_setAt 54 = .ok (.goto 10, 3) := by decide +kernel
theorem dX9_setAt_57 : decode cX9_setAt 57 = .ok (.iconst 1, 1) := by decide +kernel
theorem dX9_setAt_58 : decode cX9_setAt 58 = .ok (.iload_n 2, 1) := by decide +kernel
theorem dX9_setAt_59 : decode cX9_setAt 59 = .ok (.ishl, 1) := by decide +kernel
theorem dX9_setAt_60 : decode cX9_setAt 60 = .ok (.iconst 1, 1) := by decide +kernel
theorem dX9_setAt_61 : decode cX9_setAt 61 = .ok (.iload_n 3, 1) := by decide +kernel
theorem dX9_setAt_62 : decode cX9_setAt 62 = .ok (.ishl, 1) := by decide +kernel
theorem dX9_setAt_63 : decode cX9_setAt 63 = .ok (.ior, 1) := by decide +kernel
theorem dX9_setAt_64 : decode cX9_setAt 64 = .ok (.ireturn, 1) := by decide +kernel
theorem dX9_setOf_0 : decode cX9_setOf 0 = .ok (.aload_n 0, 1) := by decide +kernel
theorem dX9_setOf_1 : decode cX9_setOf 1 = .ok (.iload_n 1, 1) := by decide +kernel
theorem dX9_setOf_2 : decode cX9_setOf 2 = .ok (.iconst 1, 1) := by decide +kernel
theorem dX9_setOf_3 : decode cX9_setOf 3 = .ok (.invokevirtual 87, 3) := by decide +kernel
theorem dX9_setOf_6 : decode cX9_setOf 6 = .ok (.ifCond .ge 7, 3) := by decide +kernel
theorem dX9_setOf_9 : decode cX9_setOf 9 = .ok (.iconst 0, 1) := by decide +kernel
theorem dX9_setOf_10 : decode cX9_setOf 10 = .ok (.goto 19, 3) := by decide +kernel
theorem dX9_setOf_13 : decode cX9_setOf 13 = .ok (.aload_n 0, 1) := by decide +kernel
theorem dX9_setOf_14 : decode cX9_setOf 14 = .ok (.aload_n 0, 1) := by decide +kernel
theorem dX9_setOf_15 : decode cX9_setOf 15 = .ok (.iload_n 1, 1) := by decide +kernel
theorem dX9_setOf_16 : decode cX9_setOf 16 = .ok (.iconst 0, 1) := by decide +kernel
theorem dX9_setOf_17 : decode cX9_setOf 17 = .ok (.invokevirtual 87, 3) := by decide +kernel
theorem dX9_setOf_20 : decode cX9_setOf 20 = .ok (.aload_n 0, 1) := by decide +kernel
theorem dX9_setOf_21 : decode cX9_setOf 21 = .ok (.iload_n 1, 1) := by decide +kernel
theorem dX9_setOf_22 : decode cX9_setOf 22 = .ok (.iconst 1, 1) := by decide +kernel
theorem dX9_setOf_23 : decode cX9_setOf 23 = .ok (.invokevirtual 87, 3) := by decide +kernel
theorem dX9_setOf_26 : decode cX9_setOf 26 = .ok (.invokevirtual 91, 3) := by decide +kernel
theorem dX9_setOf_29 : decode cX9_setOf 29 = .ok (.ireturn, 1) := by decide +kernel
theorem dX9_taken_0 : decode cX9_taken 0 = .ok (.iconst 0, 1) := by decide +kernel
theorem dX9_taken_1 : decode cX9_taken 1 = .ok (.istore_n 1, 1) := by decide +kernel
theorem dX9_taken_2 : decode cX9_taken 2 = .ok (.iconst 0, 1) := by decide +kernel
theorem dX9_taken_3 : decode cX9_taken 3 = .ok (.istore_n 2, 1) := by decide +kernel
theorem dX9_taken_4 : decode cX9_taken 4 = .ok (.iload_n 2, 1) := by decide +kernel
theorem dX9_taken_5 : decode cX9_taken 5 = .ok (.aload_n 0, 1) := by decide +kernel
theorem dX9_taken_6 : decode cX9_taken 6 = .ok (.getfield 9, 3) := by decide +kernel
theorem dX9_taken_9 : decode cX9_taken 9 = .ok (.iconst 1, 1) := by decide +kernel
theorem dX9_taken_10 : decode cX9_taken 10 = .ok (.iaload, 1) := by decide +kernel
theorem dX9_taken_11 : decode cX9_taken 11 = .ok (.if_icmp .ge 17, 3) := by decide +kernel
theorem dX9_taken_14 : decode cX9_taken 14 = .ok (.iload_n 1, 1) := by decide +kernel
theorem dX9_taken_15 : decode cX9_taken 15 = .ok (.aload_n 0, 1) := by decide +kernel
theorem dX9_taken_16 : decode cX9_taken 16 = .ok (.iload_n 2, 1) := by decide +kernel
theorem dX9_taken_17 : decode cX9_taken 17 = .ok (.invokevirtual 94, 3) := by decide +kernel
theorem dX9_taken_20 : decode cX9_taken 20 = .ok (.ior, 1) := by decide +kernel
theorem dX9_taken_21 : decode cX9_taken 21 = .ok (.istore_n 1, 1) := by decide +kernel
theorem dX9_taken_22 : decode cX9_taken 22 = .ok (.iinc 2 1, 3) := by decide +kernel
theorem dX9_taken_25 : decode cX9_taken 25 = .ok (.goto (-21), 3) := by decide +kernel
theorem dX9_taken_28 : decode cX9_taken 28 = .ok (.iload_n 1, 1) := by decide +kernel
theorem dX9_taken_29 : decode cX9_taken 29 = .ok (.ireturn, 1) := by decide +kernel
theorem dX9_isSome_0 : decode cX9_isSome 0 = .ok (.aload_n 0, 1) := by decide +kernel
theorem dX9_isSome_1 : decode cX9_isSome 1 = .ok (.getfield 9, 3) := by decide +kernel
theorem dX9_isSome_4 : decode cX9_isSome 4 = .ok (.iconst 3, 1) := by decide +kernel
theorem dX9_isSome_5 : decode cX9_isSome 5 = .ok (.iaload, 1) := by decide +kernel
theorem dX9_isSome_6 : decode cX9_isSome 6 = .ok (.iconst 1, 1) := by decide +kernel
theorem dX9_isSome_7 : decode cX9_isSome 7 = .ok (.if_icmp .ne 32, 3) := by decide +kernel
theorem dX9_isSome_10 : decode cX9_isSome 10 = .ok (.iload_n 1, 1) := by decide +kernel
theorem dX9_isSome_11 : decode cX9_isSome 11 = .ok (.iload_n 2, 1) := by decide +kernel
theorem dX9_isSome_12 : decode cX9_isSome 12 = .ok (.aload_n 0, 1) := by decide +kernel
theorem dX9_isSome_13 : decode cX9_isSome 13 = .ok (.getfield 9, 3) := by decide +kernel
theorem dX9_isSome_16 : decode cX9_isSome 16 = .ok (.iconst 2, 1) := by decide +kernel
theorem dX9_isSome_17 : decode cX9_isSome 17 = .ok (.iaload, 1) := by decide +kernel
theorem dX9_isSome_18 : decode cX9_isSome 18 = .ok (.iadd, 1) := by decide +kernel
theorem dX9_isSome_19 : decode cX9_isSome 19 = .ok (.aload_n 0, 1) := by decide +kernel
theorem dX9_isSome_20 : decode cX9_isSome 20 = .ok (.getfield 9, 3) := by decide +kernel
theorem dX9_isSome_23 : decode cX9_isSome 23 = .ok (.iconst 2, 1) := by decide +kernel
theorem dX9_isSome_24 : decode cX9_isSome 24 = .ok (.iaload, 1) := by decide +kernel
theorem dX9_isSome_25 : decode cX9_isSome 25 = .ok (.irem, 1) := by decide +kernel
theorem dX9_isSome_26 : decode cX9_isSome 26 = .ok (.ishr, 1) := by decide +kernel
theorem dX9_isSome_27 : decode cX9_isSome 27 = .ok (.iconst 1, 1) := by decide +kernel
theorem dX9_isSome_28 : decode cX9_isSome 28 = .ok (.iand, 1) := by decide +kernel
theorem dX9_isSome_29 : decode cX9_isSome 29 = .ok (.iconst 1, 1) := by decide +kernel
theorem dX9_isSome_30 : decode cX9_isSome 30 = .ok (.if_icmp .ne 7, 3) := by decide +kernel
theorem dX9_isSome_33 : decode cX9_isSome 33 = .ok (.iconst 1, 1) := by decide +kernel
theorem dX9_isSome_34 : decode cX9_isSome 34 = .ok (.goto 4, 3) := by decide +kernel
theorem dX9_isSome_37 : decode cX9_isSome 37 = .ok (.iconst 0, 1) := by decide +kernel
theorem dX9_isSome_38 : decode cX9_isSome 38 = .ok (.ireturn, 1) := by decide +kernel
theorem dX9_isSome_39 : decode cX9_isSome 39 = .ok (.aload_n 0, 1) := by decide +kernel
theorem dX9_isSome_40 : decode cX9_isSome 40 = .ok (.iload_n 2, 1) := by decide +kernel
theorem dX9_isSome_41 : decode cX9_isSome 41 = .ok (.invokevirtual 98, 3) := by decide +kernel
theorem dX9_isSome_44 : decode cX9_isSome 44 = .ok (.ifCond .eq 20, 3) := by decide +kernel
theorem dX9_isSome_47 : decode cX9_isSome 47 = .ok (.iload_n 1, 1) := by decide +kernel
theorem dX9_isSome_48 : decode cX9_isSome 48 = .ok (.iload_n 2, 1) := by decide +kernel
theorem dX9_isSome_49 : decode cX9_isSome 49 = .ok (.ishr, 1) := by decide +kernel
theorem dX9_isSome_50 : decode cX9_isSome 50 = .ok (.iconst 1, 1) := by decide +kernel
theorem dX9_isSome_51 : decode cX9_isSome 51 = .ok (.iand, 1) := by decide +kernel
theorem dX9_isSome_52 : decode cX9_isSome 52 = .ok (.iconst 1, 1) := by decide +kernel
theorem dX9_isSome_53 : decode cX9_isSome 53 = .ok (.if_icmp .ne 7, 3) := by decide +kernel
theorem dX9_isSome_56 : decode cX9_isSome 56 = .ok (.iconst 1, 1) := by decide +kernel
theorem dX9_isSome_57 : decode cX9_isSome 57 = .ok (.goto 22, 3) := by decide +kernel
theorem dX9_isSome_60 : decode cX9_isSome 60 = .ok (.iconst 0, 1) := by decide +kernel
theorem dX9_isSome_61 : decode cX9_isSome 61 = .ok (.goto 18, 3) := by decide +kernel
theorem dX9_isSome_64 : decode cX9_isSome 64 = .ok (.aload_n 0, 1) := by decide +kernel
theorem dX9_isSome_65 : decode cX9_isSome 65 = .ok (.getfield 9, 3) := by decide +kernel
theorem dX9_isSome_68 : decode cX9_isSome 68 = .ok (.iconst 4, 1) := by decide +kernel
theorem dX9_isSome_69 : decode cX9_isSome 69 = .ok (.iaload, 1) := by decide +kernel
theorem dX9_isSome_70 : decode cX9_isSome 70 = .ok (.iconst 1, 1) := by decide +kernel
theorem dX9_isSome_71 : decode cX9_isSome 71 = .ok (.if_icmp .ne 7, 3) := by decide +kernel
theorem dX9_isSome_74 : decode cX9_isSome 74 = .ok (.iconst 1, 1) := by decide +kernel
theorem dX9_isSome_75 : decode cX9_isSome 75 = .ok (.goto 4, 3) := by decide +kernel
theorem dX9_isSome_78 : decode cX9_isSome 78 = .ok (.iconst 0, 1) := by decide +kernel
theorem dX9_isSome_79 : decode cX9_isSome 79 = .ok (.ireturn, 1) := by decide +kernel
theorem dX9_isByFriend_0 : decode cX9_isByFriend 0 = .ok (.aload_n 0, 1) := by decide +kernel
theorem dX9_isByFriend_1 : decode cX9_isByFriend 1 = .ok (.getfield 9, 3) := by decide +kernel
theorem dX9_isByFriend_4 : decode cX9_isByFriend 4 = .ok (.iconst 3, 1) := by decide +kernel
theorem dX9_isByFriend_5 : decode cX9_isByFriend 5 = .ok (.iaload, 1) := by decide +kernel
theorem dX9_isByFriend_6 : decode cX9_isByFriend 6 = .ok (.ifCond .ne 13, 3) := by decide +kernel
theorem dX9_isByFriend_9 : decode cX9_isByFriend 9 = .ok (.aload_n 0, 1) := by decide +kernel
theorem dX9_isByFriend_10 : decode cX9_isByFriend 10 = .ok (.iload_n 1, 1) := by decide +kernel
theorem dX9_isByFriend_11 : decode cX9_isByFriend 11 = .ok (.invokevirtual 98, 3) := by decide +kernel
theorem dX9_isByFriend_14 : decode cX9_isByFriend 14 = .ok (.ifCond .ne 5, 3) := by decide +kernel
theorem dX9_isByFriend_17 : decode cX9_isByFriend 17 = .ok (.iconst 0, 1) := by decide +kernel
theorem dX9_isByFriend_18 : decode cX9_isByFriend 18 = .ok (.ireturn, 1) := by decide +kernel
theorem dX9_isByFriend_19 : decode cX9_isByFriend 19 = .ok (.iload_n 1, 1) := by decide +kernel
theorem dX9_isByFriend_20 : decode cX9_isByFriend 20 = .ok (.aload_n 0, 1) := by decide +kernel
theorem dX9_isByFriend_21 : decode cX9_isByFriend 21 = .ok (.getfield 9, 3) := by decide +kernel
theorem dX9_isByFriend_24 : decode cX9_isByFriend 24 = .ok (.iconst 2, 1) := by decide +kernel
theorem dX9_isByFriend_25 : decode cX9_isByFriend 25 = .ok (.iaload, 1) := by decide +kernel
theorem dX9_isByFriend_26 : decode cX9_isByFriend 26 = .ok (.iadd, 1) := by decide +kernel
theorem dX9_isByFriend_27 : decode cX9_isByFriend 27 = .ok (.aload_n 0, 1) := by decide +kernel
theorem dX9_isByFriend_28 : decode cX9_isByFriend 28 = .ok (.getfield 9, 3) := by decide +kernel
theorem dX9_isByFriend_31 : decode cX9_isByFriend 31 = .ok (.iconst 2, 1) := by decide +kernel
theorem dX9_isByFriend_32 : decode cX9_isByFriend 32 = .ok (.iaload, 1) := by decide +kernel
theorem dX9_isByFriend_33 : decode cX9_isByFriend 33 = .ok (.irem, 1) := by decide +kernel
theorem dX9_isByFriend_34 : decode cX9_isByFriend 34 = .ok (.istore_n 2, 1) := by decide +kernel
theorem dX9_isByFriend_35 : decode cX9_isByFriend 35 = .ok (.iconst 0, 1) := by decide +kernel
theorem dX9_isByFriend_36 : decode cX9_isByFriend 36 = .ok (.istore_n 3, 1) := by decide +kernel
theorem dX9_isByFriend_37 : decode cX9_isByFriend 37 = .ok (.iconst 0, 1) := by decide +kernel
theorem dX9_isByFriend_38 : decode cX9_isByFriend 38 = .ok (.istore 4, 2) := by decide +kernel
theorem dX9_isByFriend_40 : decode cX9_isByFriend 40 = .ok (.iload 4, 2) := by decide +kernel
theorem dX9_isByFriend_42 : decode cX9_isByFriend 42 = .ok (.aload_n 0, 1) := by decide +kernel
theorem dX9_isByFriend_43 : decode cX9_isByFriend 43 = .ok (.getfield 9, 3) := by decide +kernel
theorem dX9_isByFriend_46 : decode cX9_isByFriend 46 = .ok (.iconst 1, 1) := by decide +kernel
theorem dX9_isByFriend_47 : decode cX9_isByFriend 47 = .ok (.iaload, 1) := by decide +kernel
theorem dX9_isByFriend_48 : decode cX9_isByFriend 48 = .ok (.if_icmp .ge 46, 3) := by decide +kernel
theorem dX9_isByFriend_51 : decode cX9_isByFriend 51 = .ok (.iload_n 3, 1) := by decide +kernel
theorem dX9_isByFriend_52 : decode cX9_isByFriend 52 = .ok (.ifCond .ne 30, 3) := by decide +kernel
theorem dX9_isByFriend_55 : decode cX9_isByFriend 55 = .ok (.aload_n 0, 1) := by decide +kernel
theorem dX9_isByFriend_56 : decode cX9_isByFriend 56 = .ok (.iload 4, 2) := by decide +kernel
theorem dX9_isByFriend_58 : decode cX9_isByFriend 58 = .ok (.iconst 0, 1) := by decide +kernel
theorem dX9_isByFriend_59 : decode cX9_isByFriend 59 = .ok (.invokevirtual 87, 3) := by decide +kernel
theorem dX9_isByFriend_62 : decode cX9_isByFriend 62 = .ok (.invokestatic 101, 3) := by decide +kernel
theorem dX9_isByFriend_65 : decode cX9_isByFriend 65 = .ok (.ifCond .eq 21, 3) := by decide +kernel
theorem dX9_isByFriend_68 : decode cX9_isByFriend 68 = .ok (.aload_n 0, 1) := by decide +kernel
theorem dX9_isByFriend_69 : decode cX9_isByFriend 69 = .ok (.iload 4, 2) := by decide +kernel
theorem dX9_isByFriend_71 : decode cX9_isByFriend 71 = .ok (.invokevirtual 94, 3) := by decide +kernel
theorem dX9_isByFriend_74 : decode cX9_isByFriend 74 = .ok (.iload_n 2, 1) := by decide +kernel
theorem dX9_isByFriend_75 : decode cX9_isByFriend 75 = .ok (.ishr, 1) := by decide +kernel
theorem dX9_isByFriend_76 : decode cX9_isByFriend 76 = .ok (.iconst 1, 1) := by decide +kernel
theorem dX9_isByFriend_77 : decode cX9_isByFriend 77 = .ok (.iand, 1) := by decide +kernel
theorem dX9_isByFriend_78 : decode cX9_isByFriend 78 = .ok (.iconst 1, 1) := by decide +kernel
theorem dX9_isByFriend_79 : decode cX9_isByFriend 79 = .ok (.if_icmp .ne 7, 3) := by decide +kernel
theorem dX9_isByFriend_82 : decode cX9_isByFriend 82 = .ok (.iconst 1, 1) := by decide +kernel
theorem dX9_isByFriend_83 : decode cX9_isByFriend 83 = .ok (.goto 4, 3) := by decide +kernel
theorem dX9_isByFriend_86 : decode cX9_isByFriend 86 = .ok (.iconst 0, 1) := by decide +kernel
theorem dX9_isByFriend_87 : decode cX9_isByFriend 87 = .ok (.istore_n 3, 1) := by decide +kernel
theorem dX9_isByFriend_88 : decode cX9_isByFriend 88 = .ok (.iinc 4 1, 3) := by decide +kernel
theorem dX9_isByFriend_91 : decode cX9_isByFriend 91 = .ok (.goto (-51), 3) := by decide +kernel
theorem dX9_isByFriend_94 : decode cX9_isByFriend 94 = .ok (.iload_n 3, 1) := by decide +kernel
theorem dX9_isByFriend_95 : decode cX9_isByFriend 95 = .ok (.ireturn, 1) := by decide +kernel
theorem dX9_may_0 : decode cX9_may 0 = .ok (.aload_n 0, 1) := by decide +kernel
theorem dX9_may_1 : decode cX9_may 1 = .ok (.iload_n 1, 1) := by decide +kernel
theorem dX9_may_2 : decode cX9_may 2 = .ok (.iconst 0, 1) := by decide +kernel
theorem dX9_may_3 : decode cX9_may 3 = .ok (.invokevirtual 87, 3) := by decide +kernel
theorem dX9_may_6 : decode cX9_may 6 = .ok (.istore 4, 2) := by decide +kernel
theorem dX9_may_8 : decode cX9_may 8 = .ok (.aload_n 0, 1) := by decide +kernel
theorem dX9_may_9 : decode cX9_may 9 = .ok (.iload 4, 2) := by decide +kernel
theorem dX9_may_11 : decode cX9_may 11 = .ok (.iload_n 2, 1) := by decide +kernel
theorem dX9_may_12 : decode cX9_may 12 = .ok (.invokevirtual 91, 3) := by decide +kernel
theorem dX9_may_15 : decode cX9_may 15 = .ok (.istore 5, 2) := by decide +kernel
theorem dX9_may_17 : decode cX9_may 17 = .ok (.aload_n 0, 1) := by decide +kernel
theorem dX9_may_18 : decode cX9_may 18 = .ok (.iload_n 1, 1) := by decide +kernel
theorem dX9_may_19 : decode cX9_may 19 = .ok (.iconst 1, 1) := by decide +kernel
theorem dX9_may_20 : decode cX9_may 20 = .ok (.invokevirtual 87, 3) := by decide +kernel
theorem dX9_may_23 : decode cX9_may 23 = .ok (.ifCond .ge 15, 3) := by decide +kernel
theorem dX9_may_26 : decode cX9_may 26 = .ok (.iload 5, 2) := by decide +kernel
theorem dX9_may_28 : decode cX9_may 28 = .ok (.ifCond .lt 10, 3) := by decide +kernel
theorem dX9_may_31 : decode cX9_may 31 = .ok (.iload 5, 2) := by decide +kernel
theorem dX9_may_33 : decode cX9_may 33 = .ok (.iload_n 3, 1) := by decide +kernel
theorem dX9_may_34 : decode cX9_may 34 = .ok (.iand, 1) := by decide +kernel
theorem dX9_may_35 : decode cX9_may 35 = .ok (.ifCond .eq 5, 3) := by decide +kernel
theorem dX9_may_38 : decode cX9_may 38 = .ok (.iconst 0, 1) := by decide +kernel
theorem dX9_may_39 : decode cX9_may 39 = .ok (.ireturn, 1) := by decide +kernel
theorem dX9_may_40 : decode cX9_may 40 = .ok (.iload 4, 2) := by decide +kernel
theorem dX9_may_42 : decode cX9_may 42 = .ok (.invokestatic 83, 3) := by decide +kernel
theorem dX9_may_45 : decode cX9_may 45 = .ok (.ifCond .eq 9, 3) := by decide +kernel
theorem dX9_may_48 : decode cX9_may 48 = .ok (.iload_n 2, 1) := by decide +kernel
theorem dX9_may_49 : decode cX9_may 49 = .ok (.iconst 2, 1) := by decide +kernel
theorem dX9_may_50 : decode cX9_may 50 = .ok (.iadd, 1) := by decide +kernel
theorem dX9_may_51 : decode cX9_may 51 = .ok (.goto 6, 3) := by decide +kernel
theorem dX9_may_54 : decode cX9_may 54 = .ok (.iload_n 2, 1) := by decide +kernel
theorem dX9_may_55 : decode cX9_may 55 = .ok (.iconst 1, 1) := by decide +kernel
theorem dX9_may_56 : decode cX9_may 56 = .ok (.iadd, 1) := by decide +kernel
theorem dX9_may_57 : decode cX9_may 57 = .ok (.istore 6, 2) := by decide +kernel
theorem dX9_may_59 : decode cX9_may 59 = .ok (.aload_n 0, 1) := by decide +kernel
theorem dX9_may_60 : decode cX9_may 60 = .ok (.iload_n 3, 1) := by decide +kernel
theorem dX9_may_61 : decode cX9_may 61 = .ok (.iload_n 2, 1) := by decide +kernel
theorem dX9_may_62 : decode cX9_may 62 = .ok (.iconst 1, 1) := by decide +kernel
theorem dX9_may_63 : decode cX9_may 63 = .ok (.isub, 1) := by decide +kernel
theorem dX9_may_64 : decode cX9_may 64 = .ok (.invokevirtual 104, 3) := by decide +kernel
theorem dX9_may_67 : decode cX9_may 67 = .ok (.istore 7, 2) := by decide +kernel
theorem dX9_may_69 : decode cX9_may 69 = .ok (.aload_n 0, 1) := by decide +kernel
theorem dX9_may_70 : decode cX9_may 70 = .ok (.iload_n 3, 1) := by decide +kernel
theorem dX9_may_71 : decode cX9_may 71 = .ok (.iload 6, 2) := by decide +kernel
theorem dX9_may_73 : decode cX9_may 73 = .ok (.invokevirtual 104, 3) := by decide +kernel
theorem dX9_may_76 : decode cX9_may 76 = .ok (.istore 8, 2) := by decide +kernel
theorem dX9_may_78 : decode cX9_may 78 = .ok (.iload 4, 2) := by decide +kernel
theorem dX9_may_80 : decode cX9_may 80 = .ok (.invokestatic 101, 3) := by decide +kernel
theorem dX9_may_83 : decode cX9_may 83 = .ok (.ifCond .eq 26, 3) := by decide +kernel
theorem dX9_may_86 : decode cX9_may 86 = .ok (.aload_n 0, 1) := by decide +kernel
theorem dX9_may_87 : decode cX9_may 87 = .ok (.iload_n 2, 1) := by decide +kernel
theorem dX9_may_88 : decode cX9_may 88 = .ok (.iconst 1, 1) := by decide +kernel
theorem dX9_may_89 : decode cX9_may 89 = .ok (.isub, 1) := by decide +kernel
theorem dX9_may_90 : decode cX9_may 90 = .ok (.invokevirtual 108, 3) := by decide +kernel
theorem dX9_may_93 : decode cX9_may 93 = .ok (.ifCond .ne 12, 3) := by decide +kernel
theorem dX9_may_96 : decode cX9_may 96 = .ok (.aload_n 0, 1) := by decide +kernel
theorem dX9_may_97 : decode cX9_may 97 = .ok (.iload 6, 2) := by decide +kernel
theorem dX9_may_99 : decode cX9_may 99 = .ok (.invokevirtual 108, 3) := by decide +kernel
theorem dX9_may_102 : decode cX9_may 102 = .ok (.ifCond .eq 7, 3) := by decide +kernel
theorem dX9_may_105 : decode cX9_may 105 = .ok (.iconst 1, 1) := by decide +kernel
theorem dX9_may_106 : decode cX9_may 106 = .ok (.goto 4, 3) := by decide +kernel
theorem dX9_may_109 : decode cX9_may 109 = .ok (.iconst 0, 1) := by decide +kernel
theorem dX9_may_110 : decode cX9_may 110 = .ok (.istore 9, 2) := by decide +kernel
theorem dX9_may_112 : decode cX9_may 112 = .ok (.iload 4, 2) := by decide +kernel
theorem dX9_may_114 : decode cX9_may 114 = .ok (.tableswitch 92 2 5 #[30, 48, 64, 48], 30) := by decide +kernel
theorem dX9_may_144 : decode cX9_may 144 = .ok (.iload 7, 2) := by decide +kernel
theorem dX9_may_146 : decode cX9_may 146 = .ok (.iload 8, 2) := by decide +kernel
theorem dX9_may_148 : decode cX9_may 148 = .ok (.if_icmp .eq 8, 3) := by decide +kernel
theorem dX9_may_151 : decode cX9_may 151 = .ok (.iload 9, 2) := by decide +kernel
theorem dX9_may_153 : decode cX9_may 153 = .ok (.ifCond .eq 7, 3) := by decide +kernel
theorem dX9_may_156 : decode cX9_may 156 = .ok (.iconst 1, 1) := by decide +kernel
theorem dX9_may_157 : decode cX9_may 157 = .ok (.goto 4, 3) := by decide +kernel
theorem dX9_may_160 : decode cX9_may 160 = .ok (.iconst 0, 1) := by decide +kernel
theorem dX9_may_161 : decode cX9_may 161 = .ok (.ireturn, 1) := by decide +kernel
theorem dX9_may_162 : decode cX9_may 162 = .ok (.iload 7, 2) := by decide +kernel
theorem dX9_may_164 : decode cX9_may 164 = .ok (.ifCond .ne 12, 3) := by decide +kernel
theorem dX9_may_167 : decode cX9_may 167 = .ok (.iload 8, 2) := by decide +kernel
theorem dX9_may_169 : decode cX9_may 169 = .ok (.ifCond .ne 7, 3) := by decide +kernel
theorem dX9_may_172 : decode cX9_may 172 = .ok (.iconst 1, 1) := by decide +kernel
theorem dX9_may_173 : decode cX9_may 173 = .ok (.goto 4, 3) := by decide +kernel
theorem dX9_may_176 : decode cX9_may 176 = .ok (.iconst 0, 1) := by decide +kernel
theorem dX9_may_177 : decode cX9_may 177 = .ok (.ireturn, 1) := by decide +kernel
theorem dX9_may_178 : decode cX9_may 178 = .ok (.iload 7, 2) := by decide +kernel
theorem dX9_may_180 : decode cX9_may 180 = .ok (.iload 8, 2) := by decide +kernel
theorem dX9_may_182 : decode cX9_may 182 = .ok (.if_icmp .eq 18, 3) := by decide +kernel
theorem dX9_may_185 : decode cX9_may 185 = .ok (.iload 9, 2) := by decide +kernel
theorem dX9_may_187 : decode cX9_may 187 = .ok (.ifCond .ne 13, 3) := by decide +kernel
theorem dX9_may_190 : decode cX9_may 190 = .ok (.iload 7, 2) := by decide +kernel
theorem dX9_may_192 : decode cX9_may 192 = .ok (.ifCond .ne 8, 3) := by decide +kernel
theorem dX9_may_195 : decode cX9_may 195 = .ok (.iload 8, 2) := by decide +kernel
theorem dX9_may_197 : decode cX9_may 197 = .ok (.ifCond .eq 7, 3) := by decide +kernel
theorem dX9_may_200 : decode cX9_may 200 = .ok (.iconst 1, 1) := by decide +kernel
theorem dX9_may_201 : decode cX9_may 201 = .ok (.goto 4, 3) := by decide +kernel
theorem dX9_may_204 : decode cX9_may 204 = .ok (.iconst 0, 1) := by decide +kernel
theorem dX9_may_205 : decode cX9_may 205 = .ok (.ireturn, 1) := by decide +kernel
theorem dX9_may_206 : decode cX9_may 206 = .ok (.iload 7, 2) := by decide +kernel
theorem dX9_may_208 : decode cX9_may 208 = .ok (.iload 8, 2) := by decide +kernel
theorem dX9_may_210 : decode cX9_may 210 = .ok (.if_icmp .ne 7, 3) := by decide +kernel
theorem dX9_may_213 : decode cX9_may 213 = .ok (.iconst 1, 1) := by decide +kernel
theorem dX9_may_214 : decode cX9_may 214 = .ok (.goto 4, 3) := by decide +kernel
theorem dX9_may_217 : decode cX9_may 217 = .ok (.iconst 0, 1) := by decide +kernel
theorem dX9_may_218 : decode cX9_may 218 = .ok (.ireturn, 1) := by decide +kernel
theorem dX9_placesOf_0 : decode cX9_placesOf 0 = .ok (.aload_n 0, 1) := by decide +kernel
theorem dX9_placesOf_1 : decode cX9_placesOf 1 = .ok (.invokevirtual 111, 3) := by decide +kernel
theorem dX9_placesOf_4 : decode cX9_placesOf 4 = .ok (.istore_n 2, 1) := by decide +kernel
theorem dX9_placesOf_5 : decode cX9_placesOf 5 = .ok (.iconst 0, 1) := by decide +kernel
theorem dX9_placesOf_6 : decode cX9_placesOf 6 = .ok (.istore_n 3, 1) := by decide +kernel
theorem dX9_placesOf_7 : decode cX9_placesOf 7 = .ok (.iconst 0, 1) := by decide +kernel
theorem dX9_placesOf_8 : decode cX9_placesOf 8 = .ok (.istore 4, 2) := by decide +kernel
theorem dX9_placesOf_10 : decode cX9_placesOf 10 = .ok (.iload 4, 2) := by decide +kernel
theorem dX9_placesOf_12 : decode cX9_placesOf 12 = .ok (.aload_n 0, 1) := by decide +kernel
theorem dX9_placesOf_13 : decode cX9_placesOf 13 = .ok (.getfield 9, 3) := by decide +kernel
theorem dX9_placesOf_16 : decode cX9_placesOf 16 = .ok (.iconst 2, 1) := by decide +kernel
theorem dX9_placesOf_17 : decode cX9_placesOf 17 = .ok (.iaload, 1) := by decide +kernel
theorem dX9_placesOf_18 : decode cX9_placesOf 18 = .ok (.if_icmp .ge 31, 3) := by decide +kernel
theorem dX9_placesOf_21 : decode cX9_placesOf 21 = .ok (.iload_n 3, 1) := by decide +kernel
theorem dX9_placesOf_22 : decode cX9_placesOf 22 = .ok (.aload_n 0, 1) := by decide +kernel
theorem dX9_placesOf_23 : decode cX9_placesOf 23 = .ok (.iload_n 1, 1) := by decide +kernel
theorem dX9_placesOf_24 : decode cX9_placesOf 24 = .ok (.iload 4, 2) := by decide +kernel
theorem dX9_placesOf_26 : decode cX9_placesOf 26 = .ok (.iload_n 2, 1) := by decide +kernel
theorem dX9_placesOf_27 : decode cX9_placesOf 27 = .ok (.invokevirtual 115, 3) := by decide +kernel
theorem dX9_placesOf_30 : decode cX9_placesOf 30 = .ok (.ifCond .eq 10, 3) := by decide +kernel
theorem dX9_placesOf_33 : decode cX9_placesOf 33 = .ok (.iconst 1, 1) := by decide +kernel
theorem dX9_placesOf_34 : decode cX9_placesOf 34 = .ok (.iload 4, 2) := by decide +kernel
theorem dX9_placesOf_36 : decode cX9_placesOf 36 = .ok (.ishl, 1) := by decide +kernel
theorem dX9_placesOf_37 : decode cX9_placesOf 37 = .ok (.goto 4, 3) := by decide +kernel
theorem dX9_placesOf_40 : decode cX9_placesOf 40 = .ok (.iconst 0, 1) := by decide +kernel
theorem dX9_placesOf_41 : decode cX9_placesOf 41 = .ok (.ior, 1) := by decide +kernel
theorem dX9_placesOf_42 : decode cX9_placesOf 42 = .ok (.istore_n 3, 1) := by decide +kernel
theorem dX9_placesOf_43 : decode cX9_placesOf 43 = .ok (.iinc 4 1, 3) := by decide +kernel
theorem dX9_placesOf_46 : decode cX9_placesOf 46 = .ok (.goto (-36), 3) := by decide +kernel
theorem dX9_placesOf_49 : decode cX9_placesOf 49 = .ok (.iload_n 3, 1) := by decide +kernel
theorem dX9_placesOf_50 : decode cX9_placesOf 50 = .ok (.ireturn, 1) := by decide +kernel
theorem dX9_bench_0 : decode cX9_bench 0 = .ok (.iload_n 1, 1) := by decide +kernel
theorem dX9_bench_1 : decode cX9_bench 1 = .ok (.iconst 1, 1) := by decide +kernel
theorem dX9_bench_2 : decode cX9_bench 2 = .ok (.bipush 12, 2) := by decide +kernel
theorem dX9_bench_4 : decode cX9_bench 4 = .ok (.invokestatic 79, 3) := by decide +kernel
theorem dX9_bench_7 : decode cX9_bench 7 = .ok (.ifCond .eq 21, 3) := by decide +kernel
theorem dX9_bench_10 : decode cX9_bench 10 = .ok (.iload_n 2, 1) := by decide +kernel
theorem dX9_bench_11 : decode cX9_bench 11 = .ok (.iconst 0, 1) := by decide +kernel
theorem dX9_bench_12 : decode cX9_bench 12 = .ok (.iconst 1, 1) := by decide +kernel
theorem dX9_bench_13 : decode cX9_bench 13 = .ok (.invokestatic 79, 3) := by decide +kernel
theorem dX9_bench_16 : decode cX9_bench 16 = .ok (.ifCond .eq 12, 3) := by decide +kernel
theorem dX9_bench_19 : decode cX9_bench 19 = .ok (.iload_n 3, 1) := by decide +kernel
theorem dX9_bench_20 : decode cX9_bench 20 = .ok (.iconst 0, 1) := by decide +kernel
theorem dX9_bench_21 : decode cX9_bench 21 = .ok (.iconst 1, 1) := by decide +kernel
theorem dX9_bench_22 : decode cX9_bench 22 = .ok (.invokestatic 79, 3) := by decide +kernel
theorem dX9_bench_25 : decode cX9_bench 25 = .ok (.ifCond .ne 6, 3) := by decide +kernel
theorem dX9_bench_28 : decode cX9_bench 28 = .ok (.ldc 118, 2) := by decide +kernel
theorem dX9_bench_30 : decode cX9_bench 30 = .ok (.ireturn, 1) := by decide +kernel
theorem dX9_bench_31 : decode cX9_bench 31 = .ok (.aload_n 0, 1) := by decide +kernel
theorem dX9_bench_32 : decode cX9_bench 32 = .ok (.invokevirtual 119, 3) := by decide +kernel
theorem dX9_bench_35 : decode cX9_bench 35 = .ok (.istore 4, 2) := by decide +kernel
theorem dX9_bench_37 : decode cX9_bench 37 = .ok (.iconst 0, 1) := by decide +kernel
theorem dX9_bench_38 : decode cX9_bench 38 = .ok (.istore 5, 2) := by decide +kernel
theorem dX9_bench_40 : decode cX9_bench 40 = .ok (.iload 5, 2) := by decide +kernel
theorem dX9_bench_42 : decode cX9_bench 42 = .ok (.aload_n 0, 1) := by decide +kernel
theorem dX9_bench_43 : decode cX9_bench 43 = .ok (.getfield 9, 3) := by decide +kernel
theorem dX9_bench_46 : decode cX9_bench 46 = .ok (.iconst 1, 1) := by decide +kernel
theorem dX9_bench_47 : decode cX9_bench 47 = .ok (.iaload, 1) := by decide +kernel
theorem dX9_bench_48 : decode cX9_bench 48 = .ok (.if_icmp .ge 17, 3) := by decide +kernel
theorem dX9_bench_51 : decode cX9_bench 51 = .ok (.aload_n 0, 1) := by decide +kernel
theorem dX9_bench_52 : decode cX9_bench 52 = .ok (.iload 5, 2) := by decide +kernel
theorem dX9_bench_54 : decode cX9_bench 54 = .ok (.iconst 1, 1) := by decide +kernel
theorem dX9_bench_55 : decode cX9_bench 55 = .ok (.iconst (-1), 1) := by decide +kernel
theorem dX9_bench_56 : decode cX9_bench 56 = .ok (.invokevirtual 122, 3) := by decide +kernel
theorem dX9_bench_59 : decode cX9_bench 59 = .ok (.iinc 5 1, 3) := by decide +kernel
theorem dX9_bench_62 : decode cX9_bench 62 = .ok (.goto (-22), 3) := by decide +kernel
theorem dX9_bench_65 : decode cX9_bench 65 = .ok (.iconst 0, 1) := by decide +kernel
theorem dX9_bench_66 : decode cX9_bench 66 = .ok (.istore 5, 2) := by decide +kernel
theorem dX9_bench_68 : decode cX9_bench 68 = .ok (.iload 5, 2) := by decide +kernel
theorem dX9_bench_70 : decode cX9_bench 70 = .ok (.bipush 12, 2) := by decide +kernel
theorem dX9_bench_72 : decode cX9_bench 72 = .ok (.if_icmp .ge 20, 3) := by decide +kernel
theorem dX9_bench_75 : decode cX9_bench 75 = .ok (.aload_n 0, 1) := by decide +kernel
theorem dX9_bench_76 : decode cX9_bench 76 = .ok (.getfield 9, 3) := by decide +kernel
theorem dX9_bench_79 : decode cX9_bench 79 = .ok (.bipush 12, 2) := by decide +kernel
theorem dX9_bench_81 : decode cX9_bench 81 = .ok (.iload 5, 2) := by decide +kernel
theorem dX9_bench_83 : decode cX9_bench 83 = .ok (.iadd, 1) := by decide +kernel
theorem dX9_bench_84 : decode cX9_bench 84 = .ok (.iconst 0, 1) := by decide +kernel
theorem dX9_bench_85 : decode cX9_bench 85 = .ok (.iastore, 1) := by decide +kernel
theorem dX9_bench_86 : decode cX9_bench 86 = .ok (.iinc 5 1, 3) := by decide +kernel
theorem dX9_bench_89 : decode cX9_bench 89 = .ok (.goto (-21), 3) := by decide +kernel
theorem dX9_bench_92 : decode cX9_bench 92 = .ok (.aload_n 0, 1) := by decide +kernel
theorem dX9_bench_93 : decode cX9_bench 93 = .ok (.getfield 9, 3) := by decide +kernel
theorem dX9_bench_96 : decode cX9_bench 96 = .ok (.iconst 2, 1) := by decide +kernel
theorem dX9_bench_97 : decode cX9_bench 97 = .ok (.iload_n 1, 1) := by decide +kernel
theorem dX9_bench_98 : decode cX9_bench 98 = .ok (.iastore, 1) := by decide +kernel
theorem dX9_bench_99 : decode cX9_bench 99 = .ok (.aload_n 0, 1) := by decide +kernel
theorem dX9_bench_100 : decode cX9_bench 100 = .ok (.getfield 9, 3) := by decide +kernel
theorem dX9_bench_103 : decode cX9_bench 103 = .ok (.iconst 3, 1) := by decide +kernel
theorem dX9_bench_104 : decode cX9_bench 104 = .ok (.iload_n 2, 1) := by decide +kernel
theorem dX9_bench_105 : decode cX9_bench 105 = .ok (.iastore, 1) := by decide +kernel
theorem dX9_bench_106 : decode cX9_bench 106 = .ok (.aload_n 0, 1) := by decide +kernel
theorem dX9_bench_107 : decode cX9_bench 107 = .ok (.getfield 9, 3) := by decide +kernel
theorem dX9_bench_110 : decode cX9_bench 110 = .ok (.iconst 4, 1) := by decide +kernel
theorem dX9_bench_111 : decode cX9_bench 111 = .ok (.iload_n 3, 1) := by decide +kernel
theorem dX9_bench_112 : decode cX9_bench 112 = .ok (.iastore, 1) := by decide +kernel
theorem dX9_bench_113 : decode cX9_bench 113 = .ok (.iload 4, 2) := by decide +kernel
theorem dX9_bench_115 : decode cX9_bench 115 = .ok (.ireturn, 1) := by decide +kernel
theorem dX9_comes_0 : decode cX9_comes 0 = .ok (.aload_n 0, 1) := by decide +kernel
theorem dX9_comes_1 : decode cX9_comes 1 = .ok (.getfield 9, 3) := by decide +kernel
theorem dX9_comes_4 : decode cX9_comes 4 = .ok (.iconst 1, 1) := by decide +kernel
theorem dX9_comes_5 : decode cX9_comes 5 = .ok (.iaload, 1) := by decide +kernel
theorem dX9_comes_6 : decode cX9_comes 6 = .ok (.istore_n 2, 1) := by decide +kernel
theorem dX9_comes_7 : decode cX9_comes 7 = .ok (.aload_n 0, 1) := by decide +kernel
theorem dX9_comes_8 : decode cX9_comes 8 = .ok (.getfield 9, 3) := by decide +kernel
theorem dX9_comes_11 : decode cX9_comes 11 = .ok (.iconst 1, 1) := by decide +kernel
theorem dX9_comes_12 : decode cX9_comes 12 = .ok (.dup2, 1) := by decide +kernel
theorem dX9_comes_13 : decode cX9_comes 13 = .ok (.iaload, 1) := by decide +kernel
theorem dX9_comes_14 : decode cX9_comes 14 = .ok (.iconst 1, 1) := by decide +kernel
theorem dX9_comes_15 : decode cX9_comes 15 = .ok (.iadd, 1) := by decide +kernel
theorem dX9_comes_16 : decode cX9_comes 16 = .ok (.iastore, 1) := by decide +kernel
theorem dX9_comes_17 : decode cX9_comes 17 = .ok (.aload_n 0, 1) := by decide +kernel
theorem dX9_comes_18 : decode cX9_comes 18 = .ok (.iload_n 2, 1) := by decide +kernel
theorem dX9_comes_19 : decode cX9_comes 19 = .ok (.iconst 0, 1) := by decide +kernel
theorem dX9_comes_20 : decode cX9_comes 20 = .ok (.iload_n 1, 1) := by decide +kernel
theorem dX9_comes_21 : decode cX9_comes 21 = .ok (.invokevirtual 122, 3) := by decide +kernel
theorem dX9_comes_24 : decode cX9_comes 24 = .ok (.aload_n 0, 1) := by decide +kernel
theorem dX9_comes_25 : decode cX9_comes 25 = .ok (.iload_n 2, 1) := by decide +kernel
theorem dX9_comes_26 : decode cX9_comes 26 = .ok (.iconst 1, 1) := by decide +kernel
theorem dX9_comes_27 : decode cX9_comes 27 = .ok (.iconst (-1), 1) := by decide +kernel
theorem dX9_comes_28 : decode cX9_comes 28 = .ok (.invokevirtual 122, 3) := by decide +kernel
theorem dX9_comes_31 : decode cX9_comes 31 = .ok (.aload_n 0, 1) := by decide +kernel
theorem dX9_comes_32 : decode cX9_comes 32 = .ok (.iload_n 2, 1) := by decide +kernel
theorem dX9_comes_33 : decode cX9_comes 33 = .ok (.iconst 2, 1) := by decide +kernel
theorem dX9_comes_34 : decode cX9_comes 34 = .ok (.iconst 0, 1) := by decide +kernel
theorem dX9_comes_35 : decode cX9_comes 35 = .ok (.invokevirtual 122, 3) := by decide +kernel
theorem dX9_comes_38 : decode cX9_comes 38 = .ok (.aload_n 0, 1) := by decide +kernel
theorem dX9_comes_39 : decode cX9_comes 39 = .ok (.iload_n 2, 1) := by decide +kernel
theorem dX9_comes_40 : decode cX9_comes 40 = .ok (.iconst 3, 1) := by decide +kernel
theorem dX9_comes_41 : decode cX9_comes 41 = .ok (.iconst 0, 1) := by decide +kernel
theorem dX9_comes_42 : decode cX9_comes 42 = .ok (.invokevirtual 122, 3) := by decide +kernel
theorem dX9_comes_45 : decode cX9_comes 45 = .ok (.iload_n 2, 1) := by decide +kernel
theorem dX9_comes_46 : decode cX9_comes 46 = .ok (.ireturn, 1) := by decide +kernel
theorem dX9_sitter_0 : decode cX9_sitter 0 = .ok (.iload_n 1, 1) := by decide +kernel
theorem dX9_sitter_1 : decode cX9_sitter 1 = .ok (.iconst 0, 1) := by decide +kernel
theorem dX9_sitter_2 : decode cX9_sitter 2 = .ok (.iconst 5, 1) := by decide +kernel
theorem dX9_sitter_3 : decode cX9_sitter 3 = .ok (.invokestatic 79, 3) := by decide +kernel
theorem dX9_sitter_6 : decode cX9_sitter 6 = .ok (.ifCond .ne 6, 3) := by decide +kernel
theorem dX9_sitter_9 : decode cX9_sitter 9 = .ok (.ldc 118, 2) := by decide +kernel
theorem dX9_sitter_11 : decode cX9_sitter 11 = .ok (.ireturn, 1) := by decide +kernel
theorem dX9_sitter_12 : decode cX9_sitter 12 = .ok (.aload_n 0, 1) := by decide +kernel
theorem dX9_sitter_13 : decode cX9_sitter 13 = .ok (.getfield 9, 3) := by decide +kernel
theorem dX9_sitter_16 : decode cX9_sitter 16 = .ok (.iconst 1, 1) := by decide +kernel
theorem dX9_sitter_17 : decode cX9_sitter 17 = .ok (.iaload, 1) := by decide +kernel
theorem dX9_sitter_18 : decode cX9_sitter 18 = .ok (.bipush 12, 2) := by decide +kernel
theorem dX9_sitter_20 : decode cX9_sitter 20 = .ok (.if_icmp .ne 8, 3) := by decide +kernel
theorem dX9_sitter_23 : decode cX9_sitter 23 = .ok (.ldc 126, 2) := by decide +kernel
theorem dX9_sitter_25 : decode cX9_sitter 25 = .ok (.goto 8, 3) := by decide +kernel
theorem dX9_sitter_28 : decode cX9_sitter 28 = .ok (.aload_n 0, 1) := by decide +kernel
theorem dX9_sitter_29 : decode cX9_sitter 29 = .ok (.iload_n 1, 1) := by decide +kernel
theorem dX9_sitter_30 : decode cX9_sitter 30 = .ok (.invokevirtual 127, 3) := by decide +kernel
theorem dX9_sitter_33 : decode cX9_sitter 33 = .ok (.ireturn, 1) := by decide +kernel
theorem dX9_worthOf_0 : decode cX9_worthOf 0 = .ok (.aload_n 0, 1) := by decide +kernel
theorem dX9_worthOf_1 : decode cX9_worthOf 1 = .ok (.iload_n 1, 1) := by decide +kernel
theorem dX9_worthOf_2 : decode cX9_worthOf 2 = .ok (.iconst 3, 1) := by decide +kernel
theorem dX9_worthOf_3 : decode cX9_worthOf 3 = .ok (.invokevirtual 87, 3) := by decide +kernel
theorem dX9_worthOf_6 : decode cX9_worthOf 6 = .ok (.istore_n 2, 1) := by decide +kernel
theorem dX9_worthOf_7 : decode cX9_worthOf 7 = .ok (.aload_n 0, 1) := by decide +kernel
theorem dX9_worthOf_8 : decode cX9_worthOf 8 = .ok (.iload_n 1, 1) := by decide +kernel
theorem dX9_worthOf_9 : decode cX9_worthOf 9 = .ok (.iconst 0, 1) := by decide +kernel
theorem dX9_worthOf_10 : decode cX9_worthOf 10 = .ok (.invokevirtual 87, 3) := by decide +kernel
theorem dX9_worthOf_13 : decode cX9_worthOf 13 = .ok (.tableswitch 59 1 5 #[35, 40, 45, 52, 57], 35) := by decide +kernel
theorem dX9_worthOf_48 : decode cX9_worthOf 48 = .ok (.iload_n 2, 1) := by decide +kernel
theorem dX9_worthOf_49 : decode cX9_worthOf 49 = .ok (.bipush 6, 2) := by decide +kernel
theorem dX9_worthOf_51 : decode cX9_worthOf 51 = .ok (.iadd, 1) := by decide +kernel
theorem dX9_worthOf_52 : decode cX9_worthOf 52 = .ok (.ireturn, 1) := by decide +kernel
theorem dX9_worthOf_53 : decode cX9_worthOf 53 = .ok (.bipush 99, 2) := by decide +kernel
theorem dX9_worthOf_55 : decode cX9_worthOf 55 = .ok (.iload_n 2, 1) := by decide +kernel
theorem dX9_worthOf_56 : decode cX9_worthOf 56 = .ok (.isub, 1) := by decide +kernel
theorem dX9_worthOf_57 : decode cX9_worthOf 57 = .ok (.ireturn, 1) := by decide +kernel
theorem dX9_worthOf_58 : decode cX9_worthOf 58 = .ok (.iconst 2, 1) := by decide +kernel
theorem dX9_worthOf_59 : decode cX9_worthOf 59 = .ok (.iload_n 2, 1) := by decide +kernel
theorem dX9_worthOf_60 : decode cX9_worthOf 60 = .ok (.bipush 6, 2) := by decide +kernel
theorem dX9_worthOf_62 : decode cX9_worthOf 62 = .ok (.iadd, 1) := by decide +kernel
theorem dX9_worthOf_63 : decode cX9_worthOf 63 = .ok (.imul, 1) := by decide +kernel
theorem dX9_worthOf_64 : decode cX9_worthOf 64 = .ok (.ireturn, 1) := by decide +kernel
theorem dX9_worthOf_65 : decode cX9_worthOf 65 = .ok (.bipush 95, 2) := by decide +kernel
theorem dX9_worthOf_67 : decode cX9_worthOf 67 = .ok (.iload_n 2, 1) := by decide +kernel
theorem dX9_worthOf_68 : decode cX9_worthOf 68 = .ok (.isub, 1) := by decide +kernel
theorem dX9_worthOf_69 : decode cX9_worthOf 69 = .ok (.ireturn, 1) := by decide +kernel
theorem dX9_worthOf_70 : decode cX9_worthOf 70 = .ok (.iconst 3, 1) := by decide +kernel
theorem dX9_worthOf_71 : decode cX9_worthOf 71 = .ok (.ireturn, 1) := by decide +kernel
theorem dX9_worthOf_72 : decode cX9_worthOf 72 = .ok (.iload_n 2, 1) := by decide +kernel
theorem dX9_worthOf_73 : decode cX9_worthOf 73 = .ok (.ireturn, 1) := by decide +kernel
theorem dX9_told_0 : decode cX9_told 0 = .ok (.aload_n 0, 1) := by decide +kernel
theorem dX9_told_1 : decode cX9_told 1 = .ok (.iload_n 1, 1) := by decide +kernel
theorem dX9_told_2 : decode cX9_told 2 = .ok (.invokevirtual 130, 3) := by decide +kernel
theorem dX9_told_5 : decode cX9_told 5 = .ok (.ifCond .ne 6, 3) := by decide +kernel
theorem dX9_told_8 : decode cX9_told 8 = .ok (.ldc 118, 2) := by decide +kernel
theorem dX9_told_10 : decode cX9_told 10 = .ok (.ireturn, 1) := by decide +kernel
theorem dX9_told_11 : decode cX9_told 11 = .ok (.iload_n 2, 1) := by decide +kernel
theorem dX9_told_12 : decode cX9_told 12 = .ok (.tableswitch 69 0 6 #[44, 44, 44, 44, 51, 57, 63], 44) := by decide +kernel
theorem dX9_told_56 : decode cX9_told 56 = .ok (.aload_n 0, 1) := by decide +kernel
theorem dX9_told_57 : decode cX9_told 57 = .ok (.iload_n 1, 1) := by decide +kernel
theorem dX9_told_58 : decode cX9_told 58 = .ok (.iload_n 2, 1) := by decide +kernel
theorem dX9_told_59 : decode cX9_told 59 = .ok (.invokevirtual 87, 3) := by decide +kernel
theorem dX9_told_62 : decode cX9_told 62 = .ok (.ireturn, 1) := by decide +kernel
theorem dX9_told_63 : decode cX9_told 63 = .ok (.aload_n 0, 1) := by decide +kernel
theorem dX9_told_64 : decode cX9_told 64 = .ok (.iload_n 1, 1) := by decide +kernel
theorem dX9_told_65 : decode cX9_told 65 = .ok (.invokevirtual 94, 3) := by decide +kernel
theorem dX9_told_68 : decode cX9_told 68 = .ok (.ireturn, 1) := by decide +kernel
theorem dX9_told_69 : decode cX9_told 69 = .ok (.aload_n 0, 1) := by decide +kernel
theorem dX9_told_70 : decode cX9_told 70 = .ok (.iload_n 1, 1) := by decide +kernel
theorem dX9_told_71 : decode cX9_told 71 = .ok (.invokevirtual 133, 3) := by decide +kernel
theorem dX9_told_74 : decode cX9_told 74 = .ok (.ireturn, 1) := by decide +kernel
theorem dX9_told_75 : decode cX9_told 75 = .ok (.aload_n 0, 1) := by decide +kernel
theorem dX9_told_76 : decode cX9_told 76 = .ok (.iload_n 1, 1) := by decide +kernel
theorem dX9_told_77 : decode cX9_told 77 = .ok (.invokevirtual 136, 3) := by decide +kernel
theorem dX9_told_80 : decode cX9_told 80 = .ok (.ireturn, 1) := by decide +kernel
theorem dX9_told_81 : decode cX9_told 81 = .ok (.ldc 118, 2) := by decide +kernel
theorem dX9_told_83 : decode cX9_told 83 = .ok (.ireturn, 1) := by decide +kernel
theorem dX9_isUnder_0 : decode cX9_isUnder 0 = .ok (.iload_n 1, 1) := by decide +kernel
theorem dX9_isUnder_1 : decode cX9_isUnder 1 = .ok (.ifCond .eq 28, 3) := by decide +kernel
theorem dX9_isUnder_4 : decode cX9_isUnder 4 = .ok (.iload_n 0, 1) := by decide +kernel
theorem dX9_isUnder_5 : decode cX9_isUnder 5 = .ok (.iload_n 1, 1) := by decide +kernel
theorem dX9_isUnder_6 : decode cX9_isUnder 6 = .ok (.if_icmp .eq 23, 3) := by decide +kernel
theorem dX9_isUnder_9 : decode cX9_isUnder 9 = .ok (.iload_n 1, 1) := by decide +kernel
theorem dX9_isUnder_10 : decode cX9_isUnder 10 = .ok (.iconst 1, 1) := by decide +kernel
theorem dX9_isUnder_11 : decode cX9_isUnder 11 = .ok (.if_icmp .ne 8, 3) := by decide +kernel
theorem dX9_isUnder_14 : decode cX9_isUnder 14 = .ok (.iload_n 0, 1) := by decide +kernel
theorem dX9_isUnder_15 : decode cX9_isUnder 15 = .ok (.iconst 3, 1) := by decide +kernel
theorem dX9_isUnder_16 : decode cX9_isUnder 16 = .ok (.if_icmp .eq 13, 3) := by decide +kernel
theorem dX9_isUnder_19 : decode cX9_isUnder 19 = .ok (.iload_n 1, 1) := by decide +kernel
theorem dX9_isUnder_20 : decode cX9_isUnder 20 = .ok (.iconst 2, 1) := by decide +kernel
theorem dX9_isUnder_21 : decode cX9_isUnder 21 = .ok (.if_icmp .ne 12, 3) := by decide +kernel
theorem dX9_isUnder_24 : decode cX9_isUnder 24 = .ok (.iload_n 0, 1) := by decide +kernel
theorem dX9_isUnder_25 : decode cX9_isUnder 25 = .ok (.iconst 4, 1) := by decide +kernel
theorem dX9_isUnder_26 : decode cX9_isUnder 26 = .ok (.if_icmp .ne 7, 3) := by decide +kernel
theorem dX9_isUnder_29 : decode cX9_isUnder 29 = .ok (.iconst 1, 1) := by decide +kernel
theorem dX9_isUnder_30 : decode cX9_isUnder 30 = .ok (.goto 4, 3) := by decide +kernel
theorem dX9_isUnder_33 : decode cX9_isUnder 33 = .ok (.iconst 0, 1) := by decide +kernel
theorem dX9_isUnder_34 : decode cX9_isUnder 34 = .ok (.ireturn, 1) := by decide +kernel
theorem dX9_as_0 : decode cX9_as 0 = .ok (.aload_n 0, 1) := by decide +kernel
theorem dX9_as_1 : decode cX9_as 1 = .ok (.iload_n 1, 1) := by decide +kernel
theorem dX9_as_2 : decode cX9_as 2 = .ok (.invokevirtual 130, 3) := by decide +kernel
theorem dX9_as_5 : decode cX9_as 5 = .ok (.ifCond .eq 12, 3) := by decide +kernel
theorem dX9_as_8 : decode cX9_as 8 = .ok (.iload_n 2, 1) := by decide +kernel
theorem dX9_as_9 : decode cX9_as 9 = .ok (.iconst 0, 1) := by decide +kernel
theorem dX9_as_10 : decode cX9_as 10 = .ok (.iconst 5, 1) := by decide +kernel
theorem dX9_as_11 : decode cX9_as 11 = .ok (.invokestatic 79, 3) := by decide +kernel
theorem dX9_as_14 : decode cX9_as 14 = .ok (.ifCond .ne 6, 3) := by decide +kernel
theorem dX9_as_17 : decode cX9_as 17 = .ok (.ldc 118, 2) := by decide +kernel
theorem dX9_as_19 : decode cX9_as 19 = .ok (.ireturn, 1) := by decide +kernel
theorem dX9_as_20 : decode cX9_as 20 = .ok (.aload_n 0, 1) := by decide +kernel
theorem dX9_as_21 : decode cX9_as 21 = .ok (.iload_n 1, 1) := by decide +kernel
theorem dX9_as_22 : decode cX9_as 22 = .ok (.iconst 0, 1) := by decide +kernel
theorem dX9_as_23 : decode cX9_as 23 = .ok (.invokevirtual 87, 3) := by decide +kernel
theorem dX9_as_26 : decode cX9_as 26 = .ok (.iload_n 2, 1) := by decide +kernel
theorem dX9_as_27 : decode cX9_as 27 = .ok (.invokestatic 139, 3) := by decide +kernel
theorem dX9_as_30 : decode cX9_as 30 = .ok (.ifCond .eq 12, 3) := by decide +kernel
theorem dX9_as_33 : decode cX9_as 33 = .ok (.aload_n 0, 1) := by decide +kernel
theorem dX9_as_34 : decode cX9_as 34 = .ok (.iload_n 1, 1) := by decide +kernel
theorem dX9_as_35 : decode cX9_as 35 = .ok (.iconst 3, 1) := by decide +kernel
theorem dX9_as_36 : decode cX9_as 36 = .ok (.invokevirtual 87, 3) := by decide +kernel
theorem dX9_as_39 : decode cX9_as 39 = .ok (.goto 5, 3) := by decide +kernel
theorem dX9_as_42 : decode cX9_as 42 = .ok (.ldc 142, 2) := by decide +kernel
theorem dX9_as_44 : decode cX9_as 44 = .ok (.ireturn, 1) := by decide +kernel
theorem dX9_turns_0 : decode cX9_turns 0 = .ok (.aload_n 0, 1) := by decide +kernel
theorem dX9_turns_1 : decode cX9_turns 1 = .ok (.iload_n 1, 1) := by decide +kernel
theorem dX9_turns_2 : decode cX9_turns 2 = .ok (.invokevirtual 130, 3) := by decide +kernel
theorem dX9_turns_5 : decode cX9_turns 5 = .ok (.ifCond .eq 12, 3) := by decide +kernel
theorem dX9_turns_8 : decode cX9_turns 8 = .ok (.iload_n 2, 1) := by decide +kernel
theorem dX9_turns_9 : decode cX9_turns 9 = .ok (.iconst 0, 1) := by decide +kernel
theorem dX9_turns_10 : decode cX9_turns 10 = .ok (.iconst 5, 1) := by decide +kernel
theorem dX9_turns_11 : decode cX9_turns 11 = .ok (.invokestatic 79, 3) := by decide +kernel
theorem dX9_turns_14 : decode cX9_turns 14 = .ok (.ifCond .ne 6, 3) := by decide +kernel
theorem dX9_turns_17 : decode cX9_turns 17 = .ok (.ldc 118, 2) := by decide +kernel
theorem dX9_turns_19 : decode cX9_turns 19 = .ok (.ireturn, 1) := by decide +kernel
theorem dX9_turns_20 : decode cX9_turns 20 = .ok (.aload_n 0, 1) := by decide +kernel
theorem dX9_turns_21 : decode cX9_turns 21 = .ok (.iload_n 1, 1) := by decide +kernel
theorem dX9_turns_22 : decode cX9_turns 22 = .ok (.iconst 1, 1) := by decide +kernel
theorem dX9_turns_23 : decode cX9_turns 23 = .ok (.invokevirtual 87, 3) := by decide +kernel
theorem dX9_turns_26 : decode cX9_turns 26 = .ok (.ifCond .lt 8, 3) := by decide +kernel
theorem dX9_turns_29 : decode cX9_turns 29 = .ok (.ldc 143, 2) := by decide +kernel
theorem dX9_turns_31 : decode cX9_turns 31 = .ok (.goto 14, 3) := by decide +kernel
theorem dX9_turns_34 : decode cX9_turns 34 = .ok (.aload_n 0, 1) := by decide +kernel
theorem dX9_turns_35 : decode cX9_turns 35 = .ok (.bipush 24, 2) := by decide +kernel
theorem dX9_turns_37 : decode cX9_turns 37 = .ok (.iconst 4, 1) := by decide +kernel
theorem dX9_turns_38 : decode cX9_turns 38 = .ok (.iload_n 1, 1) := by decide +kernel
theorem dX9_turns_39 : decode cX9_turns 39 = .ok (.imul, 1) := by decide +kernel
theorem dX9_turns_40 : decode cX9_turns 40 = .ok (.iadd, 1) := by decide +kernel
theorem dX9_turns_41 : decode cX9_turns 41 = .ok (.iload_n 2, 1) := by decide +kernel
theorem dX9_turns_42 : decode cX9_turns 42 = .ok (.invokevirtual 144, 3) := by decide +kernel
theorem dX9_turns_45 : decode cX9_turns 45 = .ok (.ireturn, 1) := by decide +kernel
theorem dX9_paysAt_0 : decode cX9_paysAt 0 = .ok (.aload_n 0, 1) := by decide +kernel
theorem dX9_paysAt_1 : decode cX9_paysAt 1 = .ok (.iconst 0, 1) := by decide +kernel
theorem dX9_paysAt_2 : decode cX9_paysAt 2 = .ok (.invokevirtual 147, 3) := by decide +kernel
theorem dX9_paysAt_5 : decode cX9_paysAt 5 = .ok (.istore_n 3, 1) := by decide +kernel
theorem dX9_paysAt_6 : decode cX9_paysAt 6 = .ok (.aload_n 0, 1) := by decide +kernel
theorem dX9_paysAt_7 : decode cX9_paysAt 7 = .ok (.getfield 48, 3) := by decide +kernel
theorem dX9_paysAt_10 : decode cX9_paysAt 10 = .ok (.iconst 0, 1) := by decide +kernel
theorem dX9_paysAt_11 : decode cX9_paysAt 11 = .ok (.aload_n 0, 1) := by decide +kernel
theorem dX9_paysAt_12 : decode cX9_paysAt 12 = .ok (.getfield 9, 3) := by decide +kernel
theorem dX9_paysAt_15 : decode cX9_paysAt 15 = .ok (.bipush 6, 2) := by decide +kernel
theorem dX9_paysAt_17 : decode cX9_paysAt 17 = .ok (.iaload, 1) := by decide +kernel
theorem dX9_paysAt_18 : decode cX9_paysAt 18 = .ok (.iastore, 1) := by decide +kernel
theorem dX9_paysAt_19 : decode cX9_paysAt 19 = .ok (.aload_n 0, 1) := by decide +kernel
theorem dX9_paysAt_20 : decode cX9_paysAt 20 = .ok (.getfield 48, 3) := by decide +kernel
theorem dX9_paysAt_23 : decode cX9_paysAt 23 = .ok (.iconst 1, 1) := by decide +kernel
theorem dX9_paysAt_24 : decode cX9_paysAt 24 = .ok (.aload_n 0, 1) := by decide +kernel
theorem dX9_paysAt_25 : decode cX9_paysAt 25 = .ok (.getfield 9, 3) := by decide +kernel
theorem dX9_paysAt_28 : decode cX9_paysAt 28 = .ok (.bipush 12, 2) := by decide +kernel
theorem dX9_paysAt_30 : decode cX9_paysAt 30 = .ok (.iload_n 2, 1) := by decide +kernel
theorem dX9_paysAt_31 : decode cX9_paysAt 31 = .ok (.iadd, 1) := by decide +kernel
theorem dX9_paysAt_32 : decode cX9_paysAt 32 = .ok (.iaload, 1) := by decide +kernel
theorem dX9_paysAt_33 : decode cX9_paysAt 33 = .ok (.iastore, 1) := by decide +kernel
theorem dX9_paysAt_34 : decode cX9_paysAt 34 = .ok (.aload_n 0, 1) := by decide +kernel
theorem dX9_paysAt_35 : decode cX9_paysAt 35 = .ok (.getfield 48, 3) := by decide +kernel
theorem dX9_paysAt_38 : decode cX9_paysAt 38 = .ok (.iconst 2, 1) := by decide +kernel
theorem dX9_paysAt_39 : decode cX9_paysAt 39 = .ok (.aload_n 0, 1) := by decide +kernel
theorem dX9_paysAt_40 : decode cX9_paysAt 40 = .ok (.iload_n 1, 1) := by decide +kernel
theorem dX9_paysAt_41 : decode cX9_paysAt 41 = .ok (.iconst 3, 1) := by decide +kernel
theorem dX9_paysAt_42 : decode cX9_paysAt 42 = .ok (.invokevirtual 87, 3) := by decide +kernel
theorem dX9_paysAt_45 : decode cX9_paysAt 45 = .ok (.iastore, 1) := by decide +kernel
theorem dX9_paysAt_46 : decode cX9_paysAt 46 = .ok (.iload_n 3, 1) := by decide +kernel
theorem dX9_paysAt_47 : decode cX9_paysAt 47 = .ok (.ifCond .ge 23, 3) := by decide +kernel
theorem dX9_paysAt_50 : decode cX9_paysAt 50 = .ok (.aload_n 0, 1) := by decide +kernel
theorem dX9_paysAt_51 : decode cX9_paysAt 51 = .ok (.getfield 9, 3) := by decide +kernel
theorem dX9_paysAt_54 : decode cX9_paysAt 54 = .ok (.bipush 6, 2) := by decide +kernel
theorem dX9_paysAt_56 : decode cX9_paysAt 56 = .ok (.iaload, 1) := by decide +kernel
theorem dX9_paysAt_57 : decode cX9_paysAt 57 = .ok (.aload_n 0, 1) := by decide +kernel
theorem dX9_paysAt_58 : decode cX9_paysAt 58 = .ok (.getfield 9, 3) := by decide +kernel
theorem dX9_paysAt_61 : decode cX9_paysAt 61 = .ok (.bipush 12, 2) := by decide +kernel
theorem dX9_paysAt_63 : decode cX9_paysAt 63 = .ok (.iload_n 2, 1) := by decide +kernel
theorem dX9_paysAt_64 : decode cX9_paysAt 64 = .ok (.iadd, 1) := by decide +kernel
theorem dX9_paysAt_65 : decode cX9_paysAt 65 = .ok (.iaload, 1) := by decide +kernel
theorem dX9_paysAt_66 : decode cX9_paysAt 66 = .ok (.iadd, 1) := by decide +kernel
theorem dX9_paysAt_67 : decode cX9_paysAt 67 = .ok (.goto 17, 3) := by decide +kernel
theorem dX9_paysAt_70 : decode cX9_paysAt 70 = .ok (.aload_n 0, 1) := by decide +kernel
theorem dX9_paysAt_71 : decode cX9_paysAt 71 = .ok (.iload_n 3, 1) := by decide +kernel
theorem dX9_paysAt_72 : decode cX9_paysAt 72 = .ok (.invokevirtual 150, 3) := by decide +kernel
theorem dX9_paysAt_75 : decode cX9_paysAt 75 = .ok (.sipush (-999), 3) := by decide +kernel
theorem dX9_paysAt_78 : decode cX9_paysAt 78 = .ok (.sipush 999, 3) := by decide +kernel
theorem dX9_paysAt_81 : decode cX9_paysAt 81 = .ok (.invokestatic 153, 3) := by decide +kernel
theorem dX9_paysAt_84 : decode cX9_paysAt 84 = .ok (.istore 4, 2) := by decide +kernel
theorem dX9_paysAt_86 : decode cX9_paysAt 86 = .ok (.aload_n 0, 1) := by decide +kernel
theorem dX9_paysAt_87 : decode cX9_paysAt 87 = .ok (.iload_n 1, 1) := by decide +kernel
theorem dX9_paysAt_88 : decode cX9_paysAt 88 = .ok (.iconst 0, 1) := by decide +kernel
theorem dX9_paysAt_89 : decode cX9_paysAt 89 = .ok (.invokevirtual 87, 3) := by decide +kernel
theorem dX9_paysAt_92 : decode cX9_paysAt 92 = .ok (.tableswitch 56 1 4 #[32, 37, 42, 49], 32) := by decide +kernel
theorem dX9_paysAt_124 : decode cX9_paysAt 124 = .ok (.iconst 2, 1) := by decide +kernel
theorem dX9_paysAt_125 : decode cX9_paysAt 125 = .ok (.iload 4, 2) := by decide +kernel
theorem dX9_paysAt_127 : decode cX9_paysAt 127 = .ok (.imul, 1) := by decide +kernel
theorem dX9_paysAt_128 : decode cX9_paysAt 128 = .ok (.ireturn, 1) := by decide +kernel
theorem dX9_paysAt_129 : decode cX9_paysAt 129 = .ok (.iload 4, 2) := by decide +kernel
theorem dX9_paysAt_131 : decode cX9_paysAt 131 = .ok (.iconst 2, 1) := by decide +kernel
theorem dX9_paysAt_132 : decode cX9_paysAt 132 = .ok (.isub, 1) := by decide +kernel
theorem dX9_paysAt_133 : decode cX9_paysAt 133 = .ok (.ireturn, 1) := by decide +kernel
theorem dX9_paysAt_134 : decode cX9_paysAt 134 = .ok (.iconst 2, 1) := by decide +kernel
theorem dX9_paysAt_135 : decode cX9_paysAt 135 = .ok (.iload 4, 2) := by decide +kernel
theorem dX9_paysAt_137 : decode cX9_paysAt 137 = .ok (.imul, 1) := by decide +kernel
theorem dX9_paysAt_138 : decode cX9_paysAt 138 = .ok (.iconst 1, 1) := by decide +kernel
theorem dX9_paysAt_139 : decode cX9_paysAt 139 = .ok (.iadd, 1) := by decide +kernel
theorem dX9_paysAt_140 : decode cX9_paysAt 140 = .ok (.ireturn, 1) := by decide +kernel
theorem dX9_paysAt_141 : decode cX9_paysAt 141 = .ok (.iload 4, 2) := by decide +kernel
theorem dX9_paysAt_143 : decode cX9_paysAt 143 = .ok (.iconst 2, 1) := by decide +kernel
theorem dX9_paysAt_144 : decode cX9_paysAt 144 = .ok (.isub, 1) := by decide +kernel
theorem dX9_paysAt_145 : decode cX9_paysAt 145 = .ok (.iconst 2, 1) := by decide +kernel
theorem dX9_paysAt_146 : decode cX9_paysAt 146 = .ok (.idiv, 1) := by decide +kernel
theorem dX9_paysAt_147 : decode cX9_paysAt 147 = .ok (.ireturn, 1) := by decide +kernel
theorem dX9_paysAt_148 : decode cX9_paysAt 148 = .ok (.iload 4, 2) := by decide +kernel
theorem dX9_paysAt_150 : decode cX9_paysAt 150 = .ok (.ireturn, 1) := by decide +kernel
theorem dX9_sitsDown_0 : decode cX9_sitsDown 0 = .ok (.aload_n 0, 1) := by decide +kernel
theorem dX9_sitsDown_1 : decode cX9_sitsDown 1 = .ok (.iload_n 1, 1) := by decide +kernel
theorem dX9_sitsDown_2 : decode cX9_sitsDown 2 = .ok (.iload_n 2, 1) := by decide +kernel
theorem dX9_sitsDown_3 : decode cX9_sitsDown 3 = .ok (.invokevirtual 157, 3) := by decide +kernel
theorem dX9_sitsDown_6 : decode cX9_sitsDown 6 = .ok (.istore_n 3, 1) := by decide +kernel
theorem dX9_sitsDown_7 : decode cX9_sitsDown 7 = .ok (.aload_n 0, 1) := by decide +kernel
theorem dX9_sitsDown_8 : decode cX9_sitsDown 8 = .ok (.iload_n 1, 1) := by decide +kernel
theorem dX9_sitsDown_9 : decode cX9_sitsDown 9 = .ok (.iconst 1, 1) := by decide +kernel
theorem dX9_sitsDown_10 : decode cX9_sitsDown 10 = .ok (.iload_n 2, 1) := by decide +kernel
theorem dX9_sitsDown_11 : decode cX9_sitsDown 11 = .ok (.invokevirtual 122, 3) := by decide +kernel
theorem dX9_sitsDown_14 : decode cX9_sitsDown 14 = .ok (.aload_n 0, 1) := by decide +kernel
theorem dX9_sitsDown_15 : decode cX9_sitsDown 15 = .ok (.iload_n 1, 1) := by decide +kernel
theorem dX9_sitsDown_16 : decode cX9_sitsDown 16 = .ok (.iconst 3, 1) := by decide +kernel
theorem dX9_sitsDown_17 : decode cX9_sitsDown 17 = .ok (.aload_n 0, 1) := by decide +kernel
theorem dX9_sitsDown_18 : decode cX9_sitsDown 18 = .ok (.iload_n 1, 1) := by decide +kernel
theorem dX9_sitsDown_19 : decode cX9_sitsDown 19 = .ok (.iconst 3, 1) := by decide +kernel
theorem dX9_sitsDown_20 : decode cX9_sitsDown 20 = .ok (.invokevirtual 87, 3) := by decide +kernel
theorem dX9_sitsDown_23 : decode cX9_sitsDown 23 = .ok (.iconst 1, 1) := by decide +kernel
theorem dX9_sitsDown_24 : decode cX9_sitsDown 24 = .ok (.iadd, 1) := by decide +kernel
theorem dX9_sitsDown_25 : decode cX9_sitsDown 25 = .ok (.invokevirtual 122, 3) := by decide +kernel
theorem dX9_sitsDown_28 : decode cX9_sitsDown 28 = .ok (.aload_n 0, 1) := by decide +kernel
theorem dX9_sitsDown_29 : decode cX9_sitsDown 29 = .ok (.iload_n 1, 1) := by decide +kernel
theorem dX9_sitsDown_30 : decode cX9_sitsDown 30 = .ok (.iconst 2, 1) := by decide +kernel
theorem dX9_sitsDown_31 : decode cX9_sitsDown 31 = .ok (.aload_n 0, 1) := by decide +kernel
theorem dX9_sitsDown_32 : decode cX9_sitsDown 32 = .ok (.iload_n 1, 1) := by decide +kernel
theorem dX9_sitsDown_33 : decode cX9_sitsDown 33 = .ok (.iconst 2, 1) := by decide +kernel
theorem dX9_sitsDown_34 : decode cX9_sitsDown 34 = .ok (.invokevirtual 87, 3) := by decide +kernel
theorem dX9_sitsDown_37 : decode cX9_sitsDown 37 = .ok (.iload_n 3, 1) := by decide +kernel
theorem dX9_sitsDown_38 : decode cX9_sitsDown 38 = .ok (.isub, 1) := by decide +kernel
theorem dX9_sitsDown_39 : decode cX9_sitsDown 39 = .ok (.sipush (-9999), 3) := by decide +kernel
theorem dX9_sitsDown_42 : decode cX9_sitsDown 42 = .ok (.sipush 9999, 3) := by decide +kernel
theorem dX9_sitsDown_45 : decode cX9_sitsDown 45 = .ok (.invokestatic 153, 3) := by decide +kernel
theorem dX9_sitsDown_48 : decode cX9_sitsDown 48 = .ok (.invokevirtual 122, 3) := by decide +kernel
theorem dX9_sitsDown_51 : decode cX9_sitsDown 51 = .ok (.aload_n 0, 1) := by decide +kernel
theorem dX9_sitsDown_52 : decode cX9_sitsDown 52 = .ok (.getfield 9, 3) := by decide +kernel
theorem dX9_sitsDown_55 : decode cX9_sitsDown 55 = .ok (.bipush 10, 2) := by decide +kernel
theorem dX9_sitsDown_57 : decode cX9_sitsDown 57 = .ok (.dup2, 1) := by decide +kernel
theorem dX9_sitsDown_58 : decode cX9_sitsDown 58 = .ok (.iaload, 1) := by decide +kernel
theorem dX9_sitsDown_59 : decode cX9_sitsDown 59 = .ok (.iload_n 3, 1) := by decide +kernel
theorem dX9_sitsDown_60 : decode cX9_sitsDown 60 = .ok (.iadd, 1) := by decide +kernel
theorem dX9_sitsDown_61 : decode cX9_sitsDown 61 = .ok (.iastore, 1) := by decide +kernel
theorem dX9_sitsDown_62 : decode cX9_sitsDown 62 = .ok (.iload_n 3, 1) := by decide +kernel
theorem dX9_sitsDown_63 : decode cX9_sitsDown 63 = .ok (.ireturn, 1) := by decide +kernel
theorem dX9_sits_0 : decode cX9_sits 0 = .ok (.aload_n 0, 1) := by decide +kernel
theorem dX9_sits_1 : decode cX9_sits 1 = .ok (.iload_n 1, 1) := by decide +kernel
theorem dX9_sits_2 : decode cX9_sits 2 = .ok (.invokevirtual 130, 3) := by decide +kernel
theorem dX9_sits_5 : decode cX9_sits 5 = .ok (.ifCond .eq 11, 3) := by decide +kernel
theorem dX9_sits_8 : decode cX9_sits 8 = .ok (.aload_n 0, 1) := by decide +kernel
theorem dX9_sits_9 : decode cX9_sits 9 = .ok (.iload_n 2, 1) := by decide +kernel
theorem dX9_sits_10 : decode cX9_sits 10 = .ok (.invokevirtual 98, 3) := by decide +kernel
theorem dX9_sits_13 : decode cX9_sits 13 = .ok (.ifCond .ne 6, 3) := by decide +kernel
theorem dX9_sits_16 : decode cX9_sits 16 = .ok (.ldc 118, 2) := by decide +kernel
theorem dX9_sits_18 : decode cX9_sits 18 = .ok (.ireturn, 1) := by decide +kernel
theorem dX9_sits_19 : decode cX9_sits 19 = .ok (.aload_n 0, 1) := by decide +kernel
theorem dX9_sits_20 : decode cX9_sits 20 = .ok (.iload_n 1, 1) := by decide +kernel
theorem dX9_sits_21 : decode cX9_sits 21 = .ok (.iload_n 2, 1) := by decide +kernel
theorem dX9_sits_22 : decode cX9_sits 22 = .ok (.aload_n 0, 1) := by decide +kernel
theorem dX9_sits_23 : decode cX9_sits 23 = .ok (.invokevirtual 111, 3) := by decide +kernel
theorem dX9_sits_26 : decode cX9_sits 26 = .ok (.invokevirtual 115, 3) := by decide +kernel
theorem dX9_sits_29 : decode cX9_sits 29 = .ok (.ifCond .eq 12, 3) := by decide +kernel
theorem dX9_sits_32 : decode cX9_sits 32 = .ok (.aload_n 0, 1) := by decide +kernel
theorem dX9_sits_33 : decode cX9_sits 33 = .ok (.iload_n 1, 1) := by decide +kernel
theorem dX9_sits_34 : decode cX9_sits 34 = .ok (.iload_n 2, 1) := by decide +kernel
theorem dX9_sits_35 : decode cX9_sits 35 = .ok (.invokevirtual 160, 3) := by decide +kernel
theorem dX9_sits_38 : decode cX9_sits 38 = .ok (.goto 5, 3) := by decide +kernel
theorem dX9_sits_41 : decode cX9_sits 41 = .ok (.ldc 143, 2) := by decide +kernel
theorem dX9_sits_43 : decode cX9_sits 43 = .ok (.ireturn, 1) := by decide +kernel
theorem dX9_rises_0 : decode cX9_rises 0 = .ok (.aload_n 0, 1) := by decide +kernel
theorem dX9_rises_1 : decode cX9_rises 1 = .ok (.iload_n 1, 1) := by decide +kernel
theorem dX9_rises_2 : decode cX9_rises 2 = .ok (.invokevirtual 130, 3) := by decide +kernel
theorem dX9_rises_5 : decode cX9_rises 5 = .ok (.ifCond .ne 6, 3) := by decide +kernel
theorem dX9_rises_8 : decode cX9_rises 8 = .ok (.ldc 118, 2) := by decide +kernel
theorem dX9_rises_10 : decode cX9_rises 10 = .ok (.ireturn, 1) := by decide +kernel
theorem dX9_rises_11 : decode cX9_rises 11 = .ok (.aload_n 0, 1) := by decide +kernel
theorem dX9_rises_12 : decode cX9_rises 12 = .ok (.iload_n 1, 1) := by decide +kernel
theorem dX9_rises_13 : decode cX9_rises 13 = .ok (.iconst 1, 1) := by decide +kernel
theorem dX9_rises_14 : decode cX9_rises 14 = .ok (.invokevirtual 87, 3) := by decide +kernel
theorem dX9_rises_17 : decode cX9_rises 17 = .ok (.ifCond .ge 8, 3) := by decide +kernel
theorem dX9_rises_20 : decode cX9_rises 20 = .ok (.ldc 143, 2) := by decide +kernel
theorem dX9_rises_22 : decode cX9_rises 22 = .ok (.goto 16, 3) := by decide +kernel
theorem dX9_rises_25 : decode cX9_rises 25 = .ok (.aload_n 0, 1) := by decide +kernel
theorem dX9_rises_26 : decode cX9_rises 26 = .ok (.bipush 24, 2) := by decide +kernel
theorem dX9_rises_28 : decode cX9_rises 28 = .ok (.iconst 4, 1) := by decide +kernel
theorem dX9_rises_29 : decode cX9_rises 29 = .ok (.iload_n 1, 1) := by decide +kernel
theorem dX9_rises_30 : decode cX9_rises 30 = .ok (.imul, 1) := by decide +kernel
theorem dX9_rises_31 : decode cX9_rises 31 = .ok (.iadd, 1) := by decide +kernel
theorem dX9_rises_32 : decode cX9_rises 32 = .ok (.iconst 1, 1) := by decide +kernel
theorem dX9_rises_33 : decode cX9_rises 33 = .ok (.iadd, 1) := by decide +kernel
theorem dX9_rises_34 : decode cX9_rises 34 = .ok (.iconst (-1), 1) := by decide +kernel
theorem dX9_rises_35 : decode cX9_rises 35 = .ok (.invokevirtual 144, 3) := by decide +kernel
theorem dX9_rises_38 : decode cX9_rises 38 = .ok (.ireturn, 1) := by decide +kernel
theorem dX9_who_0 : decode cX9_who 0 = .ok (.aload_n 0, 1) := by decide +kernel
theorem dX9_who_1 : decode cX9_who 1 = .ok (.iload_n 1, 1) := by decide +kernel
theorem dX9_who_2 : decode cX9_who 2 = .ok (.invokevirtual 98, 3) := by decide +kernel
theorem dX9_who_5 : decode cX9_who 5 = .ok (.ifCond .ne 6, 3) := by decide +kernel
theorem dX9_who_8 : decode cX9_who 8 = .ok (.ldc 118, 2) := by decide +kernel
theorem dX9_who_10 : decode cX9_who 10 = .ok (.ireturn, 1) := by decide +kernel
theorem dX9_who_11 : decode cX9_who 11 = .ok (.iconst (-1), 1) := by decide +kernel
theorem dX9_who_12 : decode cX9_who 12 = .ok (.istore_n 2, 1) := by decide +kernel
theorem dX9_who_13 : decode cX9_who 13 = .ok (.iconst 0, 1) := by decide +kernel
theorem dX9_who_14 : decode cX9_who 14 = .ok (.istore_n 3, 1) := by decide +kernel
theorem dX9_who_15 : decode cX9_who 15 = .ok (.iload_n 3, 1) := by decide +kernel
theorem dX9_who_16 : decode cX9_who 16 = .ok (.aload_n 0, 1) := by decide +kernel
theorem dX9_who_17 : decode cX9_who 17 = .ok (.getfield 9, 3) := by decide +kernel
theorem dX9_who_20 : decode cX9_who 20 = .ok (.iconst 1, 1) := by decide +kernel
theorem dX9_who_21 : decode cX9_who 21 = .ok (.iaload, 1) := by decide +kernel
theorem dX9_who_22 : decode cX9_who 22 = .ok (.if_icmp .ge 28, 3) := by decide +kernel
theorem dX9_who_25 : decode cX9_who 25 = .ok (.aload_n 0, 1) := by decide +kernel
theorem dX9_who_26 : decode cX9_who 26 = .ok (.iload_n 3, 1) := by decide +kernel
theorem dX9_who_27 : decode cX9_who 27 = .ok (.invokevirtual 94, 3) := by decide +kernel
theorem dX9_who_30 : decode cX9_who 30 = .ok (.iload_n 1, 1) := by decide +kernel
theorem dX9_who_31 : decode cX9_who 31 = .ok (.ishr, 1) := by decide +kernel
theorem dX9_who_32 : decode cX9_who 32 = .ok (.iconst 1, 1) := by decide +kernel
theorem dX9_who_33 : decode cX9_who 33 = .ok (.iand, 1) := by decide +kernel
theorem dX9_who_34 : decode cX9_who 34 = .ok (.iconst 1, 1) := by decide +kernel
theorem dX9_who_35 : decode cX9_who 35 = .ok (.if_icmp .ne 7, 3) := by decide +kernel
theorem dX9_who_38 : decode cX9_who 38 = .ok (.iload_n 3, 1) := by decide +kernel
theorem dX9_who_39 : decode cX9_who 39 = .ok (.goto 4, 3) := by decide +kernel
theorem dX9_who_42 : decode cX9_who 42 = .ok (.iload_n 2, 1) := by decide +kernel
theorem dX9_who_43 : decode cX9_who 43 = .ok (.istore_n 2, 1) := by decide +kernel
theorem dX9_who_44 : decode cX9_who 44 = .ok (.iinc 3 1, 3) := by decide +kernel
theorem dX9_who_47 : decode cX9_who 47 = .ok (.goto (-32), 3) := by decide +kernel
theorem dX9_who_50 : decode cX9_who 50 = .ok (.iload_n 2, 1) := by decide +kernel
theorem dX9_who_51 : decode cX9_who 51 = .ok (.invokestatic 163, 3) := by decide +kernel
theorem dX9_who_54 : decode cX9_who 54 = .ok (.ireturn, 1) := by decide +kernel
theorem dX9_cushion_0 : decode cX9_cushion 0 = .ok (.aload_n 0, 1) := by decide +kernel
theorem dX9_cushion_1 : decode cX9_cushion 1 = .ok (.iload_n 1, 1) := by decide +kernel
theorem dX9_cushion_2 : decode cX9_cushion 2 = .ok (.invokevirtual 98, 3) := by decide +kernel
theorem dX9_cushion_5 : decode cX9_cushion 5 = .ok (.ifCond .eq 25, 3) := by decide +kernel
theorem dX9_cushion_8 : decode cX9_cushion 8 = .ok (.iload_n 2, 1) := by decide +kernel
theorem dX9_cushion_9 : decode cX9_cushion 9 = .ok (.iconst 0, 1) := by decide +kernel
theorem dX9_cushion_10 : decode cX9_cushion 10 = .ok (.bipush 99, 2) := by decide +kernel
theorem dX9_cushion_12 : decode cX9_cushion 12 = .ok (.invokestatic 79, 3) := by decide +kernel
theorem dX9_cushion_15 : decode cX9_cushion 15 = .ok (.ifCond .eq 15, 3) := by decide +kernel
theorem dX9_cushion_18 : decode cX9_cushion 18 = .ok (.aload_n 0, 1) := by decide +kernel
theorem dX9_cushion_19 : decode cX9_cushion 19 = .ok (.bipush 12, 2) := by decide +kernel
theorem dX9_cushion_21 : decode cX9_cushion 21 = .ok (.iload_n 1, 1) := by decide +kernel
theorem dX9_cushion_22 : decode cX9_cushion 22 = .ok (.iadd, 1) := by decide +kernel
theorem dX9_cushion_23 : decode cX9_cushion 23 = .ok (.iload_n 2, 1) := by decide +kernel
theorem dX9_cushion_24 : decode cX9_cushion 24 = .ok (.invokevirtual 144, 3) := by decide +kernel
theorem dX9_cushion_27 : decode cX9_cushion 27 = .ok (.goto 5, 3) := by decide +kernel
theorem dX9_cushion_30 : decode cX9_cushion 30 = .ok (.ldc 118, 2) := by decide +kernel
theorem dX9_cushion_32 : decode cX9_cushion 32 = .ok (.ireturn, 1) := by decide +kernel
theorem dX9_rule_0 : decode cX9_rule 0 = .ok (.iload_n 1, 1) := by decide +kernel
theorem dX9_rule_1 : decode cX9_rule 1 = .ok (.iconst 0, 1) := by decide +kernel
theorem dX9_rule_2 : decode cX9_rule 2 = .ok (.iconst 3, 1) := by decide +kernel
theorem dX9_rule_3 : decode cX9_rule 3 = .ok (.invokestatic 79, 3) := by decide +kernel
theorem dX9_rule_6 : decode cX9_rule 6 = .ok (.ifCond .eq 43, 3) := by decide +kernel
theorem dX9_rule_9 : decode cX9_rule 9 = .ok (.iload_n 2, 1) := by decide +kernel
theorem dX9_rule_10 : decode cX9_rule 10 = .ok (.iconst 0, 1) := by decide +kernel
theorem dX9_rule_11 : decode cX9_rule 11 = .ok (.iload_n 1, 1) := by decide +kernel
theorem dX9_rule_12 : decode cX9_rule 12 = .ok (.ifCond .ne 8, 3) := by decide +kernel
theorem dX9_rule_15 : decode cX9_rule 15 = .ok (.bipush 99, 2) := by decide +kernel
theorem dX9_rule_17 : decode cX9_rule 17 = .ok (.goto 14, 3) := by decide +kernel
theorem dX9_rule_20 : decode cX9_rule 20 = .ok (.iload_n 1, 1) := by decide +kernel
theorem dX9_rule_21 : decode cX9_rule 21 = .ok (.iconst 1, 1) := by decide +kernel
theorem dX9_rule_22 : decode cX9_rule 22 = .ok (.if_icmp .ne 7, 3) := by decide +kernel
theorem dX9_rule_25 : decode cX9_rule 25 = .ok (.iconst 2, 1) := by decide +kernel
theorem dX9_rule_26 : decode cX9_rule 26 = .ok (.goto 5, 3) := by decide +kernel
theorem dX9_rule_29 : decode cX9_rule 29 = .ok (.bipush 100, 2) := by decide +kernel
theorem dX9_rule_31 : decode cX9_rule 31 = .ok (.invokestatic 79, 3) := by decide +kernel
theorem dX9_rule_34 : decode cX9_rule 34 = .ok (.ifCond .eq 15, 3) := by decide +kernel
theorem dX9_rule_37 : decode cX9_rule 37 = .ok (.aload_n 0, 1) := by decide +kernel
theorem dX9_rule_38 : decode cX9_rule 38 = .ok (.bipush 6, 2) := by decide +kernel
theorem dX9_rule_40 : decode cX9_rule 40 = .ok (.iload_n 1, 1) := by decide +kernel
theorem dX9_rule_41 : decode cX9_rule 41 = .ok (.iadd, 1) := by decide +kernel
theorem dX9_rule_42 : decode cX9_rule 42 = .ok (.iload_n 2, 1) := by decide +kernel
theorem dX9_rule_43 : decode cX9_rule 43 = .ok (.invokevirtual 144, 3) := by decide +kernel
theorem dX9_rule_46 : decode cX9_rule 46 = .ok (.goto 5, 3) := by decide +kernel
theorem dX9_rule_49 : decode cX9_rule 49 = .ok (.ldc 118, 2) := by decide +kernel
theorem dX9_rule_51 : decode cX9_rule 51 = .ok (.ireturn, 1) := by decide +kernel
theorem dX9_draw_0 : decode cX9_draw 0 = .ok (.aload_n 0, 1) := by decide +kernel
theorem dX9_draw_1 : decode cX9_draw 1 = .ok (.getfield 9, 3) := by decide +kernel
theorem dX9_draw_4 : decode cX9_draw 4 = .ok (.iconst 0, 1) := by decide +kernel
theorem dX9_draw_5 : decode cX9_draw 5 = .ok (.aload_n 0, 1) := by decide +kernel
theorem dX9_draw_6 : decode cX9_draw 6 = .ok (.getfield 9, 3) := by decide +kernel
theorem dX9_draw_9 : decode cX9_draw 9 = .ok (.iconst 0, 1) := by decide +kernel
theorem dX9_draw_10 : decode cX9_draw 10 = .ok (.iaload, 1) := by decide +kernel
theorem dX9_draw_11 : decode cX9_draw 11 = .ok (.ldc 166, 2) := by decide +kernel
theorem dX9_draw_13 : decode cX9_draw 13 = .ok (.imul, 1) := by decide +kernel
theorem dX9_draw_14 : decode cX9_draw 14 = .ok (.sipush 12345, 3) := by decide +kernel
theorem dX9_draw_17 : decode cX9_draw 17 = .ok (.iadd, 1) := by decide +kernel
theorem dX9_draw_18 : decode cX9_draw 18 = .ok (.iastore, 1) := by decide +kernel
theorem dX9_draw_19 : decode cX9_draw 19 = .ok (.aload_n 0, 1) := by decide +kernel
theorem dX9_draw_20 : decode cX9_draw 20 = .ok (.getfield 9, 3) := by decide +kernel
theorem dX9_draw_23 : decode cX9_draw 23 = .ok (.iconst 0, 1) := by decide +kernel
theorem dX9_draw_24 : decode cX9_draw 24 = .ok (.iaload, 1) := by decide +kernel
theorem dX9_draw_25 : decode cX9_draw 25 = .ok (.bipush 8, 2) := by decide +kernel
theorem dX9_draw_27 : decode cX9_draw 27 = .ok (.iushr, 1) := by decide +kernel
theorem dX9_draw_28 : decode cX9_draw 28 = .ok (.ireturn, 1) := by decide +kernel
theorem dX9_deal_0 : decode cX9_deal 0 = .ok (.iload_n 1, 1) := by decide +kernel
theorem dX9_deal_1 : decode cX9_deal 1 = .ok (.iconst 1, 1) := by decide +kernel
theorem dX9_deal_2 : decode cX9_deal 2 = .ok (.bipush 12, 2) := by decide +kernel
theorem dX9_deal_4 : decode cX9_deal 4 = .ok (.invokestatic 79, 3) := by decide +kernel
theorem dX9_deal_7 : decode cX9_deal 7 = .ok (.ifCond .ne 6, 3) := by decide +kernel
theorem dX9_deal_10 : decode cX9_deal 10 = .ok (.ldc 118, 2) := by decide +kernel
theorem dX9_deal_12 : decode cX9_deal 12 = .ok (.ireturn, 1) := by decide +kernel
theorem dX9_deal_13 : decode cX9_deal 13 = .ok (.iconst 0, 1) := by decide +kernel
theorem dX9_deal_14 : decode cX9_deal 14 = .ok (.istore_n 2, 1) := by decide +kernel
theorem dX9_deal_15 : decode cX9_deal 15 = .ok (.iload_n 2, 1) := by decide +kernel
theorem dX9_deal_16 : decode cX9_deal 16 = .ok (.iload_n 1, 1) := by decide +kernel
theorem dX9_deal_17 : decode cX9_deal 17 = .ok (.if_icmp .ge 32, 3) := by decide +kernel
theorem dX9_deal_20 : decode cX9_deal 20 = .ok (.aload_n 0, 1) := by decide +kernel
theorem dX9_deal_21 : decode cX9_deal 21 = .ok (.getfield 9, 3) := by decide +kernel
theorem dX9_deal_24 : decode cX9_deal 24 = .ok (.iconst 1, 1) := by decide +kernel
theorem dX9_deal_25 : decode cX9_deal 25 = .ok (.iaload, 1) := by decide +kernel
theorem dX9_deal_26 : decode cX9_deal 26 = .ok (.bipush 12, 2) := by decide +kernel
theorem dX9_deal_28 : decode cX9_deal 28 = .ok (.if_icmp .ge 21, 3) := by decide +kernel
theorem dX9_deal_31 : decode cX9_deal 31 = .ok (.aload_n 0, 1) := by decide +kernel
theorem dX9_deal_32 : decode cX9_deal 32 = .ok (.aload_n 0, 1) := by decide +kernel
theorem dX9_deal_33 : decode cX9_deal 33 = .ok (.invokevirtual 167, 3) := by decide +kernel
theorem dX9_deal_36 : decode cX9_deal 36 = .ok (.bipush 6, 2) := by decide +kernel
theorem dX9_deal_38 : decode cX9_deal 38 = .ok (.irem, 1) := by decide +kernel
theorem dX9_deal_39 : decode cX9_deal 39 = .ok (.invokevirtual 127, 3) := by decide +kernel
theorem dX9_deal_42 : decode cX9_deal 42 = .ok (.istore_n 3, 1) := by decide +kernel
theorem dX9_deal_43 : decode cX9_deal 43 = .ok (.iinc 2 1, 3) := by decide +kernel
theorem dX9_deal_46 : decode cX9_deal 46 = .ok (.goto (-31), 3) := by decide +kernel
theorem dX9_deal_49 : decode cX9_deal 49 = .ok (.iload_n 2, 1) := by decide +kernel
theorem dX9_deal_50 : decode cX9_deal 50 = .ok (.ireturn, 1) := by decide +kernel
theorem dX9_seed_0 : decode cX9_seed 0 = .ok (.aload_n 0, 1) := by decide +kernel
theorem dX9_seed_1 : decode cX9_seed 1 = .ok (.iconst 0, 1) := by decide +kernel
theorem dX9_seed_2 : decode cX9_seed 2 = .ok (.iload_n 1, 1) := by decide +kernel
theorem dX9_seed_3 : decode cX9_seed 3 = .ok (.invokevirtual 144, 3) := by decide +kernel
theorem dX9_seed_6 : decode cX9_seed 6 = .ok (.ireturn, 1) := by decide +kernel
theorem dX9_bits_0 : decode cX9_bits 0 = .ok (.iconst 0, 1) := by decide +kernel
theorem dX9_bits_1 : decode cX9_bits 1 = .ok (.istore_n 1, 1) := by decide +kernel
theorem dX9_bits_2 : decode cX9_bits 2 = .ok (.iconst 0, 1) := by decide +kernel
theorem dX9_bits_3 : decode cX9_bits 3 = .ok (.istore_n 2, 1) := by decide +kernel
theorem dX9_bits_4 : decode cX9_bits 4 = .ok (.iload_n 2, 1) := by decide +kernel
theorem dX9_bits_5 : decode cX9_bits 5 = .ok (.bipush 12, 2) := by decide +kernel
theorem dX9_bits_7 : decode cX9_bits 7 = .ok (.if_icmp .ge 17, 3) := by decide +kernel
theorem dX9_bits_10 : decode cX9_bits 10 = .ok (.iload_n 1, 1) := by decide +kernel
theorem dX9_bits_11 : decode cX9_bits 11 = .ok (.iload_n 0, 1) := by decide +kernel
theorem dX9_bits_12 : decode cX9_bits 12 = .ok (.iload_n 2, 1) := by decide +kernel
theorem dX9_bits_13 : decode cX9_bits 13 = .ok (.ishr, 1) := by decide +kernel
theorem dX9_bits_14 : decode cX9_bits 14 = .ok (.iconst 1, 1) := by decide +kernel
theorem dX9_bits_15 : decode cX9_bits 15 = .ok (.iand, 1) := by decide +kernel
theorem dX9_bits_16 : decode cX9_bits 16 = .ok (.iadd, 1) := by decide +kernel
theorem dX9_bits_17 : decode cX9_bits 17 = .ok (.istore_n 1, 1) := by decide +kernel
theorem dX9_bits_18 : decode cX9_bits 18 = .ok (.iinc 2 1, 3) := by decide +kernel
theorem dX9_bits_21 : decode cX9_bits 21 = .ok (.goto (-17), 3) := by decide +kernel
theorem dX9_bits_24 : decode cX9_bits 24 = .ok (.iload_n 1, 1) := by decide +kernel
theorem dX9_bits_25 : decode cX9_bits 25 = .ok (.ireturn, 1) := by decide +kernel
theorem dX9_manySit_0 : decode cX9_manySit 0 = .ok (.iconst 0, 1) := by decide +kernel
theorem dX9_manySit_1 : decode cX9_manySit 1 = .ok (.istore_n 1, 1) := by decide +kernel
theorem dX9_manySit_2 : decode cX9_manySit 2 = .ok (.iconst 0, 1) := by decide +kernel
theorem dX9_manySit_3 : decode cX9_manySit 3 = .ok (.istore_n 2, 1) := by decide +kernel
theorem dX9_manySit_4 : decode cX9_manySit 4 = .ok (.iload_n 2, 1) := by decide +kernel
theorem dX9_manySit_5 : decode cX9_manySit 5 = .ok (.aload_n 0, 1) := by decide +kernel
theorem dX9_manySit_6 : decode cX9_manySit 6 = .ok (.getfield 9, 3) := by decide +kernel
theorem dX9_manySit_9 : decode cX9_manySit 9 = .ok (.iconst 1, 1) := by decide +kernel
theorem dX9_manySit_10 : decode cX9_manySit 10 = .ok (.iaload, 1) := by decide +kernel
theorem dX9_manySit_11 : decode cX9_manySit 11 = .ok (.if_icmp .ge 26, 3) := by decide +kernel
theorem dX9_manySit_14 : decode cX9_manySit 14 = .ok (.iload_n 1, 1) := by decide +kernel
theorem dX9_manySit_15 : decode cX9_manySit 15 = .ok (.aload_n 0, 1) := by decide +kernel
theorem dX9_manySit_16 : decode cX9_manySit 16 = .ok (.iload_n 2, 1) := by decide +kernel
theorem dX9_manySit_17 : decode cX9_manySit 17 = .ok (.iconst 1, 1) := by decide +kernel
theorem dX9_manySit_18 : decode cX9_manySit 18 = .ok (.invokevirtual 87, 3) := by decide +kernel
theorem dX9_manySit_21 : decode cX9_manySit 21 = .ok (.ifCond .ge 7, 3) := by decide +kernel
theorem dX9_manySit_24 : decode cX9_manySit 24 = .ok (.iconst 0, 1) := by decide +kernel
theorem dX9_manySit_25 : decode cX9_manySit 25 = .ok (.goto 4, 3) := by decide +kernel
theorem dX9_manySit_28 : decode cX9_manySit 28 = .ok (.iconst 1, 1) := by decide +kernel
theorem dX9_manySit_29 : decode cX9_manySit 29 = .ok (.iadd, 1) := by decide +kernel
theorem dX9_manySit_30 : decode cX9_manySit 30 = .ok (.istore_n 1, 1) := by decide +kernel
theorem dX9_manySit_31 : decode cX9_manySit 31 = .ok (.iinc 2 1, 3) := by decide +kernel
theorem dX9_manySit_34 : decode cX9_manySit 34 = .ok (.goto (-30), 3) := by decide +kernel
theorem dX9_manySit_37 : decode cX9_manySit 37 = .ok (.iload_n 1, 1) := by decide +kernel
theorem dX9_manySit_38 : decode cX9_manySit 38 = .ok (.ireturn, 1) := by decide +kernel
theorem dX9_placeIn_0 : decode cX9_placeIn 0 = .ok (.iload_n 1, 1) := by decide +kernel
theorem dX9_placeIn_1 : decode cX9_placeIn 1 = .ok (.istore_n 2, 1) := by decide +kernel
theorem dX9_placeIn_2 : decode cX9_placeIn 2 = .ok (.iconst 0, 1) := by decide +kernel
theorem dX9_placeIn_3 : decode cX9_placeIn 3 = .ok (.istore_n 3, 1) := by decide +kernel
theorem dX9_placeIn_4 : decode cX9_placeIn 4 = .ok (.iload_n 2, 1) := by decide +kernel
theorem dX9_placeIn_5 : decode cX9_placeIn 5 = .ok (.ifCond .gt 11, 3) := by decide +kernel
theorem dX9_placeIn_8 : decode cX9_placeIn 8 = .ok (.iload_n 0, 1) := by decide +kernel
theorem dX9_placeIn_9 : decode cX9_placeIn 9 = .ok (.iload_n 3, 1) := by decide +kernel
theorem dX9_placeIn_10 : decode cX9_placeIn 10 = .ok (.ishr, 1) := by decide +kernel
theorem dX9_placeIn_11 : decode cX9_placeIn 11 = .ok (.iconst 1, 1) := by decide +kernel
theorem dX9_placeIn_12 : decode cX9_placeIn 12 = .ok (.iand, 1) := by decide +kernel
theorem dX9_placeIn_13 : decode cX9_placeIn 13 = .ok (.ifCond .ne 17, 3) := by decide +kernel
theorem dX9_placeIn_16 : decode cX9_placeIn 16 = .ok (.iload_n 2, 1) := by decide +kernel
theorem dX9_placeIn_17 : decode cX9_placeIn 17 = .ok (.iload_n 0, 1) := by decide +kernel
theorem dX9_placeIn_18 : decode cX9_placeIn 18 = .ok (.iload_n 3, 1) := by decide +kernel
theorem dX9_placeIn_19 : decode cX9_placeIn 19 = .ok (.ishr, 1) := by decide +kernel
theorem dX9_placeIn_20 : decode cX9_placeIn 20 = .ok (.iconst 1, 1) := by decide +kernel
theorem dX9_placeIn_21 : decode cX9_placeIn 21 = .ok (.iand, 1) := by decide +kernel
theorem dX9_placeIn_22 : decode cX9_placeIn 22 = .ok (.isub, 1) := by decide +kernel
theorem dX9_placeIn_23 : decode cX9_placeIn 23 = .ok (.istore_n 2, 1) := by decide +kernel
theorem dX9_placeIn_24 : decode cX9_placeIn 24 = .ok (.iinc 3 1, 3) := by decide +kernel
theorem dX9_placeIn_27 : decode cX9_placeIn 27 = .ok (.goto (-23), 3) := by decide +kernel
theorem dX9_placeIn_30 : decode cX9_placeIn 30 = .ok (.iload_n 3, 1) := by decide +kernel
theorem dX9_placeIn_31 : decode cX9_placeIn 31 = .ok (.ireturn, 1) := by decide +kernel
theorem dX9_softest_0 : decode cX9_softest 0 = .ok (.iload_n 1, 1) := by decide +kernel
theorem dX9_softest_1 : decode cX9_softest 1 = .ok (.iconst 0, 1) := by decide +kernel
theorem dX9_softest_2 : decode cX9_softest 2 = .ok (.invokestatic 170, 3) := by decide +kernel
theorem dX9_softest_5 : decode cX9_softest 5 = .ok (.istore_n 2, 1) := by decide +kernel
theorem dX9_softest_6 : decode cX9_softest 6 = .ok (.iload_n 2, 1) := by decide +kernel
theorem dX9_softest_7 : decode cX9_softest 7 = .ok (.iconst 1, 1) := by decide +kernel
theorem dX9_softest_8 : decode cX9_softest 8 = .ok (.iadd, 1) := by decide +kernel
theorem dX9_softest_9 : decode cX9_softest 9 = .ok (.istore_n 3, 1) := by decide +kernel
theorem dX9_softest_10 : decode cX9_softest 10 = .ok (.iload_n 3, 1) := by decide +kernel
theorem dX9_softest_11 : decode cX9_softest 11 = .ok (.aload_n 0, 1) := by decide +kernel
theorem dX9_softest_12 : decode cX9_softest 12 = .ok (.getfield 9, 3) := by decide +kernel
theorem dX9_softest_15 : decode cX9_softest 15 = .ok (.iconst 2, 1) := by decide +kernel
theorem dX9_softest_16 : decode cX9_softest 16 = .ok (.iaload, 1) := by decide +kernel
theorem dX9_softest_17 : decode cX9_softest 17 = .ok (.if_icmp .ge 45, 3) := by decide +kernel
theorem dX9_softest_20 : decode cX9_softest 20 = .ok (.iload_n 1, 1) := by decide +kernel
theorem dX9_softest_21 : decode cX9_softest 21 = .ok (.iload_n 3, 1) := by decide +kernel
theorem dX9_softest_22 : decode cX9_softest 22 = .ok (.ishr, 1) := by decide +kernel
theorem dX9_softest_23 : decode cX9_softest 23 = .ok (.iconst 1, 1) := by decide +kernel
theorem dX9_softest_24 : decode cX9_softest 24 = .ok (.iand, 1) := by decide +kernel
theorem dX9_softest_25 : decode cX9_softest 25 = .ok (.iconst 1, 1) := by decide +kernel
theorem dX9_softest_26 : decode cX9_softest 26 = .ok (.if_icmp .ne 28, 3) := by decide +kernel
theorem dX9_softest_29 : decode cX9_softest 29 = .ok (.aload_n 0, 1) := by decide +kernel
theorem dX9_softest_30 : decode cX9_softest 30 = .ok (.getfield 9, 3) := by decide +kernel
theorem dX9_softest_33 : decode cX9_softest 33 = .ok (.bipush 12, 2) := by decide +kernel
theorem dX9_softest_35 : decode cX9_softest 35 = .ok (.iload_n 3, 1) := by decide +kernel
theorem dX9_softest_36 : decode cX9_softest 36 = .ok (.iadd, 1) := by decide +kernel
theorem dX9_softest_37 : decode cX9_softest 37 = .ok (.iaload, 1) := by decide +kernel
theorem dX9_softest_38 : decode cX9_softest 38 = .ok (.aload_n 0, 1) := by decide +kernel
theorem dX9_softest_39 : decode cX9_softest 39 = .ok (.getfield 9, 3) := by decide +kernel
theorem dX9_softest_42 : decode cX9_softest 42 = .ok (.bipush 12, 2) := by decide +kernel
theorem dX9_softest_44 : decode cX9_softest 44 = .ok (.iload_n 2, 1) := by decide +kernel
theorem dX9_softest_45 : decode cX9_softest 45 = .ok (.iadd, 1) := by decide +kernel
theorem dX9_softest_46 : decode cX9_softest 46 = .ok (.iaload, 1) := by decide +kernel
theorem dX9_softest_47 : decode cX9_softest 47 = .ok (.if_icmp .le 7, 3) := by decide +kernel
theorem dX9_softest_50 : decode cX9_softest 50 = .ok (.iload_n 3, 1) := by decide +kernel
theorem dX9_softest_51 : decode cX9_softest 51 = .ok (.goto 4, 3) := by decide +kernel
theorem dX9_softest_54 : decode cX9_softest 54 = .ok (.iload_n 2, 1) := by decide +kernel
theorem dX9_softest_55 : decode cX9_softest 55 = .ok (.istore_n 2, 1) := by decide +kernel
theorem dX9_softest_56 : decode cX9_softest 56 = .ok (.iinc 3 1, 3) := by decide +kernel
theorem dX9_softest_59 : decode cX9_softest 59 = .ok (.goto (-49), 3) := by decide +kernel
theorem dX9_softest_62 : decode cX9_softest 62 = .ok (.iload_n 2, 1) := by decide +kernel
theorem dX9_softest_63 : decode cX9_softest 63 = .ok (.ireturn, 1) := by decide +kernel
theorem dX9_comesIn_0 : decode cX9_comesIn 0 = .ok (.iconst 0, 1) := by decide +kernel
theorem dX9_comesIn_1 : decode cX9_comesIn 1 = .ok (.istore_n 1, 1) := by decide +kernel
theorem dX9_comesIn_2 : decode cX9_comesIn 2 = .ok (.iload_n 1, 1) := by decide +kernel
theorem dX9_comesIn_3 : decode cX9_comesIn 3 = .ok (.aload_n 0, 1) := by decide +kernel
theorem dX9_comesIn_4 : decode cX9_comesIn 4 = .ok (.getfield 9, 3) := by decide +kernel
theorem dX9_comesIn_7 : decode cX9_comesIn 7 = .ok (.iconst 1, 1) := by decide +kernel
theorem dX9_comesIn_8 : decode cX9_comesIn 8 = .ok (.iaload, 1) := by decide +kernel
theorem dX9_comesIn_9 : decode cX9_comesIn 9 = .ok (.if_icmp .ge 18, 3) := by decide +kernel
theorem dX9_comesIn_12 : decode cX9_comesIn 12 = .ok (.aload_n 0, 1) := by decide +kernel
theorem dX9_comesIn_13 : decode cX9_comesIn 13 = .ok (.iload_n 1, 1) := by decide +kernel
theorem dX9_comesIn_14 : decode cX9_comesIn 14 = .ok (.iconst 1, 1) := by decide +kernel
theorem dX9_comesIn_15 : decode cX9_comesIn 15 = .ok (.invokevirtual 87, 3) := by decide +kernel
theorem dX9_comesIn_18 : decode cX9_comesIn 18 = .ok (.ifCond .lt 9, 3) := by decide +kernel
theorem dX9_comesIn_21 : decode cX9_comesIn 21 = .ok (.iinc 1 1, 3) := by decide +kernel
theorem dX9_comesIn_24 : decode cX9_comesIn 24 = .ok (.goto (-22), 3) := by decide +kernel
theorem dX9_comesIn_27 : decode cX9_comesIn 27 = .ok (.iload_n 1, 1) := by decide +kernel
theorem dX9_comesIn_28 : decode cX9_comesIn 28 = .ok (.aload_n 0, 1) := by decide +kernel
theorem dX9_comesIn_29 : decode cX9_comesIn 29 = .ok (.getfield 9, 3) := by decide +kernel
theorem dX9_comesIn_32 : decode cX9_comesIn 32 = .ok (.iconst 1, 1) := by decide +kernel
theorem dX9_comesIn_33 : decode cX9_comesIn 33 = .ok (.iaload, 1) := by decide +kernel
theorem dX9_comesIn_34 : decode cX9_comesIn 34 = .ok (.if_icmp .ne 7, 3) := by decide +kernel
theorem dX9_comesIn_37 : decode cX9_comesIn 37 = .ok (.iconst 0, 1) := by decide +kernel
theorem dX9_comesIn_38 : decode cX9_comesIn 38 = .ok (.goto 8, 3) := by decide +kernel
theorem dX9_comesIn_41 : decode cX9_comesIn 41 = .ok (.aload_n 0, 1) := by decide +kernel
theorem dX9_comesIn_42 : decode cX9_comesIn 42 = .ok (.iload_n 1, 1) := by decide +kernel
theorem dX9_comesIn_43 : decode cX9_comesIn 43 = .ok (.invokevirtual 133, 3) := by decide +kernel
theorem dX9_comesIn_46 : decode cX9_comesIn 46 = .ok (.istore_n 2, 1) := by decide +kernel
theorem dX9_comesIn_47 : decode cX9_comesIn 47 = .ok (.iload_n 2, 1) := by decide +kernel
theorem dX9_comesIn_48 : decode cX9_comesIn 48 = .ok (.ifCond .eq 72, 3) := by decide +kernel
theorem dX9_comesIn_51 : decode cX9_comesIn 51 = .ok (.aload_n 0, 1) := by decide +kernel
theorem dX9_comesIn_52 : decode cX9_comesIn 52 = .ok (.getfield 9, 3) := by decide +kernel
theorem dX9_comesIn_55 : decode cX9_comesIn 55 = .ok (.bipush 7, 2) := by decide +kernel
theorem dX9_comesIn_57 : decode cX9_comesIn 57 = .ok (.iaload, 1) := by decide +kernel
theorem dX9_comesIn_58 : decode cX9_comesIn 58 = .ok (.ifCond .ne 19, 3) := by decide +kernel
theorem dX9_comesIn_61 : decode cX9_comesIn 61 = .ok (.iload_n 2, 1) := by decide +kernel
theorem dX9_comesIn_62 : decode cX9_comesIn 62 = .ok (.aload_n 0, 1) := by decide +kernel
theorem dX9_comesIn_63 : decode cX9_comesIn 63 = .ok (.invokevirtual 167, 3) := by decide +kernel
theorem dX9_comesIn_66 : decode cX9_comesIn 66 = .ok (.iload_n 2, 1) := by decide +kernel
theorem dX9_comesIn_67 : decode cX9_comesIn 67 = .ok (.invokestatic 173, 3) := by decide +kernel
theorem dX9_comesIn_70 : decode cX9_comesIn 70 = .ok (.irem, 1) := by decide +kernel
theorem dX9_comesIn_71 : decode cX9_comesIn 71 = .ok (.invokestatic 170, 3) := by decide +kernel
theorem dX9_comesIn_74 : decode cX9_comesIn 74 = .ok (.goto 27, 3) := by decide +kernel
theorem dX9_comesIn_77 : decode cX9_comesIn 77 = .ok (.aload_n 0, 1) := by decide +kernel
theorem dX9_comesIn_78 : decode cX9_comesIn 78 = .ok (.getfield 9, 3) := by decide +kernel
theorem dX9_comesIn_81 : decode cX9_comesIn 81 = .ok (.bipush 7, 2) := by decide +kernel
theorem dX9_comesIn_83 : decode cX9_comesIn 83 = .ok (.iaload, 1) := by decide +kernel
theorem dX9_comesIn_84 : decode cX9_comesIn 84 = .ok (.iconst 1, 1) := by decide +kernel
theorem dX9_comesIn_85 : decode cX9_comesIn 85 = .ok (.if_icmp .ne 11, 3) := by decide +kernel
theorem dX9_comesIn_88 : decode cX9_comesIn 88 = .ok (.iload_n 2, 1) := by decide +kernel
theorem dX9_comesIn_89 : decode cX9_comesIn 89 = .ok (.iconst 0, 1) := by decide +kernel
theorem dX9_comesIn_90 : decode cX9_comesIn 90 = .ok (.invokestatic 170, 3) := by decide +kernel
theorem dX9_comesIn_93 : decode cX9_comesIn 93 = .ok (.goto 8, 3) := by decide +kernel
theorem dX9_comesIn_96 : decode cX9_comesIn 96 = .ok (.aload_n 0, 1) := by decide +kernel
theorem dX9_comesIn_97 : decode cX9_comesIn 97 = .ok (.iload_n 2, 1) := by decide +kernel
theorem dX9_comesIn_98 : decode cX9_comesIn 98 = .ok (.invokevirtual 176, 3) := by decide +kernel
theorem dX9_comesIn_101 : decode cX9_comesIn 101 = .ok (.istore_n 3, 1) := by decide +kernel
theorem dX9_comesIn_102 : decode cX9_comesIn 102 = .ok (.aload_n 0, 1) := by decide +kernel
theorem dX9_comesIn_103 : decode cX9_comesIn 103 = .ok (.iload_n 1, 1) := by decide +kernel
theorem dX9_comesIn_104 : decode cX9_comesIn 104 = .ok (.iload_n 3, 1) := by decide +kernel
theorem dX9_comesIn_105 : decode cX9_comesIn 105 = .ok (.invokevirtual 160, 3) := by decide +kernel
theorem dX9_comesIn_108 : decode cX9_comesIn 108 = .ok (.istore 4, 2) := by decide +kernel
theorem dX9_comesIn_110 : decode cX9_comesIn 110 = .ok (.aload_n 0, 1) := by decide +kernel
theorem dX9_comesIn_111 : decode cX9_comesIn 111 = .ok (.dup, 1) := by decide +kernel
theorem dX9_comesIn_112 : decode cX9_comesIn 112 = .ok (.getfield 179, 3) := by decide +kernel
theorem dX9_comesIn_115 : decode cX9_comesIn 115 = .ok (.iconst 1, 1) := by decide +kernel
theorem dX9_comesIn_116 : decode cX9_comesIn 116 = .ok (.iadd, 1) := by decide +kernel
theorem dX9_comesIn_117 : decode cX9_comesIn 117 = .ok (.putfield 179, 3) := by decide +kernel
theorem dX9_comesIn_120 : decode cX9_comesIn 120 = .ok (.return_, 1) := by decide +kernel
theorem dX9_minute_0 : decode cX9_minute 0 = .ok (.aload_n 0, 1) := by decide +kernel
theorem dX9_minute_1 : decode cX9_minute 1 = .ok (.invokevirtual 167, 3) := by decide +kernel
theorem dX9_minute_4 : decode cX9_minute 4 = .ok (.bipush 100, 2) := by decide +kernel
theorem dX9_minute_6 : decode cX9_minute 6 = .ok (.irem, 1) := by decide +kernel
theorem dX9_minute_7 : decode cX9_minute 7 = .ok (.aload_n 0, 1) := by decide +kernel
theorem dX9_minute_8 : decode cX9_minute 8 = .ok (.getfield 9, 3) := by decide +kernel
theorem dX9_minute_11 : decode cX9_minute 11 = .ok (.bipush 8, 2) := by decide +kernel
theorem dX9_minute_13 : decode cX9_minute 13 = .ok (.iaload, 1) := by decide +kernel
theorem dX9_minute_14 : decode cX9_minute 14 = .ok (.if_icmp .ge 7, 3) := by decide +kernel
theorem dX9_minute_17 : decode cX9_minute 17 = .ok (.aload_n 0, 1) := by decide +kernel
theorem dX9_minute_18 : decode cX9_minute 18 = .ok (.invokevirtual 183, 3) := by decide +kernel
theorem dX9_minute_21 : decode cX9_minute 21 = .ok (.aload_n 0, 1) := by decide +kernel
theorem dX9_minute_22 : decode cX9_minute 22 = .ok (.invokevirtual 167, 3) := by decide +kernel
theorem dX9_minute_25 : decode cX9_minute 25 = .ok (.bipush 100, 2) := by decide +kernel
theorem dX9_minute_27 : decode cX9_minute 27 = .ok (.irem, 1) := by decide +kernel
theorem dX9_minute_28 : decode cX9_minute 28 = .ok (.aload_n 0, 1) := by decide +kernel
theorem dX9_minute_29 : decode cX9_minute 29 = .ok (.getfield 9, 3) := by decide +kernel
theorem dX9_minute_32 : decode cX9_minute 32 = .ok (.bipush 9, 2) := by decide +kernel
theorem dX9_minute_34 : decode cX9_minute 34 = .ok (.iaload, 1) := by decide +kernel
theorem dX9_minute_35 : decode cX9_minute 35 = .ok (.if_icmp .ge 7, 3) := by decide +kernel
theorem dX9_minute_38 : decode cX9_minute 38 = .ok (.iconst 1, 1) := by decide +kernel
theorem dX9_minute_39 : decode cX9_minute 39 = .ok (.goto 4, 3) := by decide +kernel
theorem dX9_minute_42 : decode cX9_minute 42 = .ok (.iconst 0, 1) := by decide +kernel
theorem dX9_minute_43 : decode cX9_minute 43 = .ok (.istore_n 1, 1) := by decide +kernel
theorem dX9_minute_44 : decode cX9_minute 44 = .ok (.iload_n 1, 1) := by decide +kernel
theorem dX9_minute_45 : decode cX9_minute 45 = .ok (.ifCond .eq 29, 3) := by decide +kernel
theorem dX9_minute_48 : decode cX9_minute 48 = .ok (.aload_n 0, 1) := by decide +kernel
theorem dX9_minute_49 : decode cX9_minute 49 = .ok (.getfield 9, 3) := by decide +kernel
theorem dX9_minute_52 : decode cX9_minute 52 = .ok (.iconst 1, 1) := by decide +kernel
theorem dX9_minute_53 : decode cX9_minute 53 = .ok (.iaload, 1) := by decide +kernel
theorem dX9_minute_54 : decode cX9_minute 54 = .ok (.ifCond .le 20, 3) := by decide +kernel
theorem dX9_minute_57 : decode cX9_minute 57 = .ok (.aload_n 0, 1) := by decide +kernel
theorem dX9_minute_58 : decode cX9_minute 58 = .ok (.aload_n 0, 1) := by decide +kernel
theorem dX9_minute_59 : decode cX9_minute 59 = .ok (.invokevirtual 167, 3) := by decide +kernel
theorem dX9_minute_62 : decode cX9_minute 62 = .ok (.aload_n 0, 1) := by decide +kernel
theorem dX9_minute_63 : decode cX9_minute 63 = .ok (.getfield 9, 3) := by decide +kernel
theorem dX9_minute_66 : decode cX9_minute 66 = .ok (.iconst 1, 1) := by decide +kernel
theorem dX9_minute_67 : decode cX9_minute 67 = .ok (.iaload, 1) := by decide +kernel
theorem dX9_minute_68 : decode cX9_minute 68 = .ok (.irem, 1) := by decide +kernel
theorem dX9_minute_69 : decode cX9_minute 69 = .ok (.iconst 1, 1) := by decide +kernel
theorem dX9_minute_70 : decode cX9_minute 70 = .ok (.iconst (-1), 1) := by decide +kernel
theorem dX9_minute_71 : decode cX9_minute 71 = .ok (.invokevirtual 122, 3) := by decide +kernel
theorem dX9_minute_74 : decode cX9_minute 74 = .ok (.aload_n 0, 1) := by decide +kernel
theorem dX9_minute_75 : decode cX9_minute 75 = .ok (.getfield 9, 3) := by decide +kernel
theorem dX9_minute_78 : decode cX9_minute 78 = .ok (.iconst 5, 1) := by decide +kernel
theorem dX9_minute_79 : decode cX9_minute 79 = .ok (.dup2, 1) := by decide +kernel
theorem dX9_minute_80 : decode cX9_minute 80 = .ok (.iaload, 1) := by decide +kernel
theorem dX9_minute_81 : decode cX9_minute 81 = .ok (.iconst 1, 1) := by decide +kernel
theorem dX9_minute_82 : decode cX9_minute 82 = .ok (.iadd, 1) := by decide +kernel
theorem dX9_minute_83 : decode cX9_minute 83 = .ok (.iastore, 1) := by decide +kernel
theorem dX9_minute_84 : decode cX9_minute 84 = .ok (.return_, 1) := by decide +kernel
theorem dX9_goesOn_0 : decode cX9_goesOn 0 = .ok (.iconst 0, 1) := by decide +kernel
theorem dX9_goesOn_1 : decode cX9_goesOn 1 = .ok (.istore_n 2, 1) := by decide +kernel
theorem dX9_goesOn_2 : decode cX9_goesOn 2 = .ok (.iload_n 2, 1) := by decide +kernel
theorem dX9_goesOn_3 : decode cX9_goesOn 3 = .ok (.iload_n 1, 1) := by decide +kernel
theorem dX9_goesOn_4 : decode cX9_goesOn 4 = .ok (.if_icmp .ge 13, 3) := by decide +kernel
theorem dX9_goesOn_7 : decode cX9_goesOn 7 = .ok (.aload_n 0, 1) := by decide +kernel
theorem dX9_goesOn_8 : decode cX9_goesOn 8 = .ok (.invokevirtual 186, 3) := by decide +kernel
theorem dX9_goesOn_11 : decode cX9_goesOn 11 = .ok (.iinc 2 1, 3) := by decide +kernel
theorem dX9_goesOn_14 : decode cX9_goesOn 14 = .ok (.goto (-12), 3) := by decide +kernel
theorem dX9_goesOn_17 : decode cX9_goesOn 17 = .ok (.return_, 1) := by decide +kernel
theorem dX9_minutes_0 : decode cX9_minutes 0 = .ok (.iload_n 1, 1) := by decide +kernel
theorem dX9_minutes_1 : decode cX9_minutes 1 = .ok (.iconst 1, 1) := by decide +kernel
theorem dX9_minutes_2 : decode cX9_minutes 2 = .ok (.bipush 100, 2) := by decide +kernel
theorem dX9_minutes_4 : decode cX9_minutes 4 = .ok (.invokestatic 79, 3) := by decide +kernel
theorem dX9_minutes_7 : decode cX9_minutes 7 = .ok (.ifCond .ne 6, 3) := by decide +kernel
theorem dX9_minutes_10 : decode cX9_minutes 10 = .ok (.ldc 118, 2) := by decide +kernel
theorem dX9_minutes_12 : decode cX9_minutes 12 = .ok (.ireturn, 1) := by decide +kernel
theorem dX9_minutes_13 : decode cX9_minutes 13 = .ok (.aload_n 0, 1) := by decide +kernel
theorem dX9_minutes_14 : decode cX9_minutes 14 = .ok (.iconst 0, 1) := by decide +kernel
theorem dX9_minutes_15 : decode cX9_minutes 15 = .ok (.putfield 179, 3) := by decide +kernel
theorem dX9_minutes_18 : decode cX9_minutes 18 = .ok (.aload_n 0, 1) := by decide +kernel
theorem dX9_minutes_19 : decode cX9_minutes 19 = .ok (.sipush 9999, 3) := by decide +kernel
theorem dX9_minutes_22 : decode cX9_minutes 22 = .ok (.aload_n 0, 1) := by decide +kernel
theorem dX9_minutes_23 : decode cX9_minutes 23 = .ok (.getfield 9, 3) := by decide +kernel
theorem dX9_minutes_26 : decode cX9_minutes 26 = .ok (.iconst 5, 1) := by decide +kernel
theorem dX9_minutes_27 : decode cX9_minutes 27 = .ok (.iaload, 1) := by decide +kernel
theorem dX9_minutes_28 : decode cX9_minutes 28 = .ok (.isub, 1) := by decide +kernel
theorem dX9_minutes_29 : decode cX9_minutes 29 = .ok (.iconst 0, 1) := by decide +kernel
theorem dX9_minutes_30 : decode cX9_minutes 30 = .ok (.iload_n 1, 1) := by decide +kernel
theorem dX9_minutes_31 : decode cX9_minutes 31 = .ok (.invokestatic 153, 3) := by decide +kernel
theorem dX9_minutes_34 : decode cX9_minutes 34 = .ok (.invokevirtual 189, 3) := by decide +kernel
theorem dX9_minutes_37 : decode cX9_minutes 37 = .ok (.aload_n 0, 1) := by decide +kernel
theorem dX9_minutes_38 : decode cX9_minutes 38 = .ok (.getfield 179, 3) := by decide +kernel
theorem dX9_minutes_41 : decode cX9_minutes 41 = .ok (.ireturn, 1) := by decide +kernel
theorem dX9_inn_0 : decode cX9_inn 0 = .ok (.iload_n 1, 1) := by decide +kernel
theorem dX9_inn_1 : decode cX9_inn 1 = .ok (.tableswitch 90 0 3 #[31, 36, 44, 49], 31) := by decide +kernel
theorem dX9_inn_32 : decode cX9_inn 32 = .ok (.aload_n 0, 1) := by decide +kernel
theorem dX9_inn_33 : decode cX9_inn 33 = .ok (.invokevirtual 111, 3) := by decide +kernel
theorem dX9_inn_36 : decode cX9_inn 36 = .ok (.ireturn, 1) := by decide +kernel
theorem dX9_inn_37 : decode cX9_inn 37 = .ok (.aload_n 0, 1) := by decide +kernel
theorem dX9_inn_38 : decode cX9_inn 38 = .ok (.getfield 9, 3) := by decide +kernel
theorem dX9_inn_41 : decode cX9_inn 41 = .ok (.bipush 10, 2) := by decide +kernel
theorem dX9_inn_43 : decode cX9_inn 43 = .ok (.iaload, 1) := by decide +kernel
theorem dX9_inn_44 : decode cX9_inn 44 = .ok (.ireturn, 1) := by decide +kernel
theorem dX9_inn_45 : decode cX9_inn 45 = .ok (.aload_n 0, 1) := by decide +kernel
theorem dX9_inn_46 : decode cX9_inn 46 = .ok (.invokevirtual 119, 3) := by decide +kernel
theorem dX9_inn_49 : decode cX9_inn 49 = .ok (.ireturn, 1) := by decide +kernel
theorem dX9_inn_50 : decode cX9_inn 50 = .ok (.iconst 0, 1) := by decide +kernel
theorem dX9_inn_51 : decode cX9_inn 51 = .ok (.istore_n 2, 1) := by decide +kernel
theorem dX9_inn_52 : decode cX9_inn 52 = .ok (.iconst 0, 1) := by decide +kernel
theorem dX9_inn_53 : decode cX9_inn 53 = .ok (.istore_n 3, 1) := by decide +kernel
theorem dX9_inn_54 : decode cX9_inn 54 = .ok (.iload_n 3, 1) := by decide +kernel
theorem dX9_inn_55 : decode cX9_inn 55 = .ok (.aload_n 0, 1) := by decide +kernel
theorem dX9_inn_56 : decode cX9_inn 56 = .ok (.getfield 9, 3) := by decide +kernel
theorem dX9_inn_59 : decode cX9_inn 59 = .ok (.iconst 1, 1) := by decide +kernel
theorem dX9_inn_60 : decode cX9_inn 60 = .ok (.iaload, 1) := by decide +kernel
theorem dX9_inn_61 : decode cX9_inn 61 = .ok (.if_icmp .ge 28, 3) := by decide +kernel
theorem dX9_inn_64 : decode cX9_inn 64 = .ok (.iload_n 2, 1) := by decide +kernel
theorem dX9_inn_65 : decode cX9_inn 65 = .ok (.aload_n 0, 1) := by decide +kernel
theorem dX9_inn_66 : decode cX9_inn 66 = .ok (.iload_n 3, 1) := by decide +kernel
theorem dX9_inn_67 : decode cX9_inn 67 = .ok (.iconst 1, 1) := by decide +kernel
theorem dX9_inn_68 : decode cX9_inn 68 = .ok (.invokevirtual 87, 3) := by decide +kernel
theorem dX9_inn_71 : decode cX9_inn 71 = .ok (.ifCond .ge 9, 3) := by decide +kernel
theorem dX9_inn_74 : decode cX9_inn 74 = .ok (.iconst 1, 1) := by decide +kernel
theorem dX9_inn_75 : decode cX9_inn 75 = .ok (.iload_n 3, 1) := by decide +kernel
theorem dX9_inn_76 : decode cX9_inn 76 = .ok (.ishl, 1) := by decide +kernel
theorem dX9_inn_77 : decode cX9_inn 77 = .ok (.goto 4, 3) := by decide +kernel
theorem dX9_inn_80 : decode cX9_inn 80 = .ok (.iconst 0, 1) := by decide +kernel
theorem dX9_inn_81 : decode cX9_inn 81 = .ok (.ior, 1) := by decide +kernel
theorem dX9_inn_82 : decode cX9_inn 82 = .ok (.istore_n 2, 1) := by decide +kernel
theorem dX9_inn_83 : decode cX9_inn 83 = .ok (.iinc 3 1, 3) := by decide +kernel
theorem dX9_inn_86 : decode cX9_inn 86 = .ok (.goto (-32), 3) := by decide +kernel
theorem dX9_inn_89 : decode cX9_inn 89 = .ok (.iload_n 2, 1) := by decide +kernel
theorem dX9_inn_90 : decode cX9_inn 90 = .ok (.ireturn, 1) := by decide +kernel
theorem dX9_inn_91 : decode cX9_inn 91 = .ok (.ldc 118, 2) := by decide +kernel
theorem dX9_inn_93 : decode cX9_inn 93 = .ok (.ireturn, 1) := by decide +kernel
theorem dX9_mayOrdinary_0 : decode cX9_mayOrdinary 0 = .ok (.iload_n 1, 1) := by decide +kernel
theorem dX9_mayOrdinary_1 : decode cX9_mayOrdinary 1 = .ok (.iload_n 2, 1) := by decide +kernel
theorem dX9_mayOrdinary_2 : decode cX9_mayOrdinary 2 = .ok (.ishr, 1) := by decide +kernel
theorem dX9_mayOrdinary_3 : decode cX9_mayOrdinary 3 = .ok (.iconst 1, 1) := by decide +kernel
theorem dX9_mayOrdinary_4 : decode cX9_mayOrdinary 4 = .ok (.iand, 1) := by decide +kernel
theorem dX9_mayOrdinary_5 : decode cX9_mayOrdinary 5 = .ok (.ifCond .ne 26, 3) := by decide +kernel
theorem dX9_mayOrdinary_8 : decode cX9_mayOrdinary 8 = .ok (.aload_n 0, 1) := by decide +kernel
theorem dX9_mayOrdinary_9 : decode cX9_mayOrdinary 9 = .ok (.iload_n 1, 1) := by decide +kernel
theorem dX9_mayOrdinary_10 : decode cX9_mayOrdinary 10 = .ok (.iload_n 2, 1) := by decide +kernel
theorem dX9_mayOrdinary_11 : decode cX9_mayOrdinary 11 = .ok (.iconst 1, 1) := by decide +kernel
theorem dX9_mayOrdinary_12 : decode cX9_mayOrdinary 12 = .ok (.isub, 1) := by decide +kernel
theorem dX9_mayOrdinary_13 : decode cX9_mayOrdinary 13 = .ok (.invokevirtual 104, 3) := by decide +kernel
theorem dX9_mayOrdinary_16 : decode cX9_mayOrdinary 16 = .ok (.aload_n 0, 1) := by decide +kernel
theorem dX9_mayOrdinary_17 : decode cX9_mayOrdinary 17 = .ok (.iload_n 1, 1) := by decide +kernel
theorem dX9_mayOrdinary_18 : decode cX9_mayOrdinary 18 = .ok (.iload_n 2, 1) := by decide +kernel
theorem dX9_mayOrdinary_19 : decode cX9_mayOrdinary 19 = .ok (.iconst 1, 1) := by decide +kernel
theorem dX9_mayOrdinary_20 : decode cX9_mayOrdinary 20 = .ok (.iadd, 1) := by decide +kernel
theorem dX9_mayOrdinary_21 : decode cX9_mayOrdinary 21 = .ok (.invokevirtual 104, 3) := by decide +kernel
theorem dX9_mayOrdinary_24 : decode cX9_mayOrdinary 24 = .ok (.if_icmp .ne 7, 3) := by decide +kernel
theorem dX9_mayOrdinary_27 : decode cX9_mayOrdinary 27 = .ok (.iconst 1, 1) := by decide +kernel
theorem dX9_mayOrdinary_28 : decode cX9_mayOrdinary 28 = .ok (.goto 4, 3) := by decide +kernel
theorem dX9_mayOrdinary_31 : decode cX9_mayOrdinary 31 = .ok (.iconst 0, 1) := by decide +kernel
theorem dX9_mayOrdinary_32 : decode cX9_mayOrdinary 32 = .ok (.ireturn, 1) := by decide +kernel
theorem dX9_worksSet_0 : decode cX9_worksSet 0 = .ok (.iconst 0, 1) := by decide +kernel
theorem dX9_worksSet_1 : decode cX9_worksSet 1 = .ok (.istore_n 3, 1) := by decide +kernel
theorem dX9_worksSet_2 : decode cX9_worksSet 2 = .ok (.iconst 0, 1) := by decide +kernel
theorem dX9_worksSet_3 : decode cX9_worksSet 3 = .ok (.istore 4, 2) := by decide +kernel
theorem dX9_worksSet_5 : decode cX9_worksSet 5 = .ok (.bipush 99, 2) := by decide +kernel
theorem dX9_worksSet_7 : decode cX9_worksSet 7 = .ok (.istore 5, 2) := by decide +kernel
theorem dX9_worksSet_9 : decode cX9_worksSet 9 = .ok (.lconst 0, 1) := by decide +kernel
theorem dX9_worksSet_10 : decode cX9_worksSet 10 = .ok (.lstore 6, 2) := by decide +kernel
theorem dX9_worksSet_12 : decode cX9_worksSet 12 = .ok (.iconst 0, 1) := by decide +kernel
theorem dX9_worksSet_13 : decode cX9_worksSet 13 = .ok (.istore 8, 2) := by decide +kernel
theorem dX9_worksSet_15 : decode cX9_worksSet 15 = .ok (.iconst 0, 1) := by decide +kernel
theorem dX9_worksSet_16 : decode cX9_worksSet 16 = .ok (.istore 9, 2) := by decide +kernel
theorem dX9_worksSet_18 : decode cX9_worksSet 18 = .ok (.iload 9, 2) := by decide +kernel
theorem dX9_worksSet_20 : decode cX9_worksSet 20 = .ok (.aload_n 0, 1) := by decide +kernel
theorem dX9_worksSet_21 : decode cX9_worksSet 21 = .ok (.getfield 9, 3) := by decide +kernel
theorem dX9_worksSet_24 : decode cX9_worksSet 24 = .ok (.iconst 2, 1) := by decide +kernel
theorem dX9_worksSet_25 : decode cX9_worksSet 25 = .ok (.iaload, 1) := by decide +kernel
theorem dX9_worksSet_26 : decode cX9_worksSet 26 = .ok (.if_icmp .ge 129, 3) := by decide +kernel
theorem dX9_worksSet_29 : decode cX9_worksSet 29 = .ok (.aload_n 0, 1) := by decide +kernel
theorem dX9_worksSet_30 : decode cX9_worksSet 30 = .ok (.iload_n 1, 1) := by decide +kernel
theorem dX9_worksSet_31 : decode cX9_worksSet 31 = .ok (.iload 9, 2) := by decide +kernel
theorem dX9_worksSet_33 : decode cX9_worksSet 33 = .ok (.invokevirtual 193, 3) := by decide +kernel
theorem dX9_worksSet_36 : decode cX9_worksSet 36 = .ok (.ifCond .eq 113, 3) := by decide +kernel
theorem dX9_worksSet_39 : decode cX9_worksSet 39 = .ok (.aload_n 0, 1) := by decide +kernel
theorem dX9_worksSet_40 : decode cX9_worksSet 40 = .ok (.getfield 19, 3) := by decide +kernel
theorem dX9_worksSet_43 : decode cX9_worksSet 43 = .ok (.iload_n 1, 1) := by decide +kernel
theorem dX9_worksSet_44 : decode cX9_worksSet 44 = .ok (.iconst 1, 1) := by decide +kernel
theorem dX9_worksSet_45 : decode cX9_worksSet 45 = .ok (.iload 9, 2) := by decide +kernel
theorem dX9_worksSet_47 : decode cX9_worksSet 47 = .ok (.ishl, 1) := by decide +kernel
theorem dX9_worksSet_48 : decode cX9_worksSet 48 = .ok (.ior, 1) := by decide +kernel
theorem dX9_worksSet_49 : decode cX9_worksSet 49 = .ok (.iaload, 1) := by decide +kernel
theorem dX9_worksSet_50 : decode cX9_worksSet 50 = .ok (.istore 10, 2) := by decide +kernel
theorem dX9_worksSet_52 : decode cX9_worksSet 52 = .ok (.iload_n 2, 1) := by decide +kernel
theorem dX9_worksSet_53 : decode cX9_worksSet 53 = .ok (.iconst 4, 1) := by decide +kernel
theorem dX9_worksSet_54 : decode cX9_worksSet 54 = .ok (.if_icmp .ne 24, 3) := by decide +kernel
theorem dX9_worksSet_57 : decode cX9_worksSet 57 = .ok (.aload_n 0, 1) := by decide +kernel
theorem dX9_worksSet_58 : decode cX9_worksSet 58 = .ok (.getfield 9, 3) := by decide +kernel
theorem dX9_worksSet_61 : decode cX9_worksSet 61 = .ok (.bipush 6, 2) := by decide +kernel
theorem dX9_worksSet_63 : decode cX9_worksSet 63 = .ok (.iaload, 1) := by decide +kernel
theorem dX9_worksSet_64 : decode cX9_worksSet 64 = .ok (.aload_n 0, 1) := by decide +kernel
theorem dX9_worksSet_65 : decode cX9_worksSet 65 = .ok (.getfield 9, 3) := by decide +kernel
theorem dX9_worksSet_68 : decode cX9_worksSet 68 = .ok (.bipush 12, 2) := by decide +kernel
theorem dX9_worksSet_70 : decode cX9_worksSet 70 = .ok (.iload 9, 2) := by decide +kernel
theorem dX9_worksSet_72 : decode cX9_worksSet 72 = .ok (.iadd, 1) := by decide +kernel
theorem dX9_worksSet_73 : decode cX9_worksSet 73 = .ok (.iaload, 1) := by decide +kernel
theorem dX9_worksSet_74 : decode cX9_worksSet 74 = .ok (.iadd, 1) := by decide +kernel
theorem dX9_worksSet_75 : decode cX9_worksSet 75 = .ok (.goto 4, 3) := by decide +kernel
theorem dX9_worksSet_78 : decode cX9_worksSet 78 = .ok (.iconst 1, 1) := by decide +kernel
theorem dX9_worksSet_79 : decode cX9_worksSet 79 = .ok (.istore 11, 2) := by decide +kernel
theorem dX9_worksSet_81 : decode cX9_worksSet 81 = .ok (.iinc 3 1, 3) := by decide +kernel
theorem dX9_worksSet_84 : decode cX9_worksSet 84 = .ok (.iload 10, 2) := by decide +kernel
theorem dX9_worksSet_86 : decode cX9_worksSet 86 = .ok (.iload 11, 2) := by decide +kernel
theorem dX9_worksSet_88 : decode cX9_worksSet 88 = .ok (.iadd, 1) := by decide +kernel
theorem dX9_worksSet_89 : decode cX9_worksSet 89 = .ok (.iload 4, 2) := by decide +kernel
theorem dX9_worksSet_91 : decode cX9_worksSet 91 = .ok (.if_icmp .le 11, 3) := by decide +kernel
theorem dX9_worksSet_94 : decode cX9_worksSet 94 = .ok (.iload 10, 2) := by decide +kernel
theorem dX9_worksSet_96 : decode cX9_worksSet 96 = .ok (.iload 11, 2) := by decide +kernel
theorem dX9_worksSet_98 : decode cX9_worksSet 98 = .ok (.iadd, 1) := by decide +kernel
theorem dX9_worksSet_99 : decode cX9_worksSet 99 = .ok (.goto 5, 3) := by decide +kernel
theorem dX9_worksSet_102 : decode cX9_worksSet 102 = .ok (.iload 4, 2) := by decide +kernel
theorem dX9_worksSet_104 : decode cX9_worksSet 104 = .ok (.istore 4, 2) := by decide +kernel
theorem dX9_worksSet_106 : decode cX9_worksSet 106 = .ok (.iload 10, 2) := by decide +kernel
theorem dX9_worksSet_108 : decode cX9_worksSet 108 = .ok (.iload 11, 2) := by decide +kernel
theorem dX9_worksSet_110 : decode cX9_worksSet 110 = .ok (.iadd, 1) := by decide +kernel
theorem dX9_worksSet_111 : decode cX9_worksSet 111 = .ok (.iload 5, 2) := by decide +kernel
theorem dX9_worksSet_113 : decode cX9_worksSet 113 = .ok (.if_icmp .ge 11, 3) := by decide +kernel
theorem dX9_worksSet_116 : decode cX9_worksSet 116 = .ok (.iload 10, 2) := by decide +kernel
theorem dX9_worksSet_118 : decode cX9_worksSet 118 = .ok (.iload 11, 2) := by decide +kernel
theorem dX9_worksSet_120 : decode cX9_worksSet 120 = .ok (.iadd, 1) := by decide +kernel
theorem dX9_worksSet_121 : decode cX9_worksSet 121 = .ok (.goto 5, 3) := by decide +kernel
theorem dX9_worksSet_124 : decode cX9_worksSet 124 = .ok (.iload 5, 2) := by decide +kernel
theorem dX9_worksSet_126 : decode cX9_worksSet 126 = .ok (.istore 5, 2) := by decide +kernel
theorem dX9_worksSet_128 : decode cX9_worksSet 128 = .ok (.lload 6, 2) := by decide +kernel
theorem dX9_worksSet_130 : decode cX9_worksSet 130 = .ok (.iload 10, 2) := by decide +kernel
theorem dX9_worksSet_132 : decode cX9_worksSet 132 = .ok (.i2l, 1) := by decide +kernel
theorem dX9_worksSet_133 : decode cX9_worksSet 133 = .ok (.ladd, 1) := by decide +kernel
theorem dX9_worksSet_134 : decode cX9_worksSet 134 = .ok (.lstore 6, 2) := by decide +kernel
theorem dX9_worksSet_136 : decode cX9_worksSet 136 = .ok (.iload 10, 2) := by decide +kernel
theorem dX9_worksSet_138 : decode cX9_worksSet 138 = .ok (.ifCond .ne 7, 3) := by decide +kernel
theorem dX9_worksSet_141 : decode cX9_worksSet 141 = .ok (.iconst 1, 1) := by decide +kernel
theorem dX9_worksSet_142 : decode cX9_worksSet 142 = .ok (.goto 5, 3) := by decide +kernel
theorem dX9_worksSet_145 : decode cX9_worksSet 145 = .ok (.iload 8, 2) := by decide +kernel
theorem dX9_worksSet_147 : decode cX9_worksSet 147 = .ok (.istore 8, 2) := by decide +kernel
theorem dX9_worksSet_149 : decode cX9_worksSet 149 = .ok (.iinc 9 1, 3) := by decide +kernel
theorem dX9_worksSet_152 : decode cX9_worksSet 152 = .ok (.goto (-134), 3) := by decide +kernel
theorem dX9_worksSet_155 : decode cX9_worksSet 155 = .ok (.iload_n 2, 1) := by decide +kernel
theorem dX9_worksSet_156 : decode cX9_worksSet 156 = .ok (.tableswitch 58 1 3 #[28, 39, 55], 28) := by decide +kernel
theorem dX9_worksSet_184 : decode cX9_worksSet 184 = .ok (.iload_n 3, 1) := by decide +kernel
theorem dX9_worksSet_185 : decode cX9_worksSet 185 = .ok (.ifCond .ne 7, 3) := by decide +kernel
theorem dX9_worksSet_188 : decode cX9_worksSet 188 = .ok (.iconst 0, 1) := by decide +kernel
theorem dX9_worksSet_189 : decode cX9_worksSet 189 = .ok (.goto 5, 3) := by decide +kernel
theorem dX9_worksSet_192 : decode cX9_worksSet 192 = .ok (.iload 5, 2) := by decide +kernel
theorem dX9_worksSet_194 : decode cX9_worksSet 194 = .ok (.ireturn, 1) := by decide +kernel
theorem dX9_worksSet_195 : decode cX9_worksSet 195 = .ok (.iload_n 3, 1) := by decide +kernel
theorem dX9_worksSet_196 : decode cX9_worksSet 196 = .ok (.ifCond .ne 7, 3) := by decide +kernel
theorem dX9_worksSet_199 : decode cX9_worksSet 199 = .ok (.iconst 1, 1) := by decide +kernel
theorem dX9_worksSet_200 : decode cX9_worksSet 200 = .ok (.goto 10, 3) := by decide +kernel
theorem dX9_worksSet_203 : decode cX9_worksSet 203 = .ok (.lload 6, 2) := by decide +kernel
theorem dX9_worksSet_205 : decode cX9_worksSet 205 = .ok (.ldc2_w 196, 3) := by decide +kernel
theorem dX9_worksSet_208 : decode cX9_worksSet 208 = .ok (.lrem, 1) := by decide +kernel
theorem dX9_worksSet_209 : decode cX9_worksSet 209 = .ok (.l2i, 1) := by decide +kernel
theorem dX9_worksSet_210 : decode cX9_worksSet 210 = .ok (.ireturn, 1) := by decide +kernel
theorem dX9_worksSet_211 : decode cX9_worksSet 211 = .ok (.iload 8, 2) := by decide +kernel
theorem dX9_worksSet_213 : decode cX9_worksSet 213 = .ok (.ireturn, 1) := by decide +kernel
theorem dX9_worksSet_214 : decode cX9_worksSet 214 = .ok (.iload 4, 2) := by decide +kernel
theorem dX9_worksSet_216 : decode cX9_worksSet 216 = .ok (.ireturn, 1) := by decide +kernel
theorem dX9_works_0 : decode cX9_works 0 = .ok (.aload_n 0, 1) := by decide +kernel
theorem dX9_works_1 : decode cX9_works 1 = .ok (.invokevirtual 111, 3) := by decide +kernel
theorem dX9_works_4 : decode cX9_works 4 = .ok (.istore_n 2, 1) := by decide +kernel
theorem dX9_works_5 : decode cX9_works 5 = .ok (.iconst 1, 1) := by decide +kernel
theorem dX9_works_6 : decode cX9_works 6 = .ok (.aload_n 0, 1) := by decide +kernel
theorem dX9_works_7 : decode cX9_works 7 = .ok (.getfield 9, 3) := by decide +kernel
theorem dX9_works_10 : decode cX9_works 10 = .ok (.iconst 2, 1) := by decide +kernel
theorem dX9_works_11 : decode cX9_works 11 = .ok (.iaload, 1) := by decide +kernel
theorem dX9_works_12 : decode cX9_works 12 = .ok (.ishl, 1) := by decide +kernel
theorem dX9_works_13 : decode cX9_works 13 = .ok (.iconst 1, 1) := by decide +kernel
theorem dX9_works_14 : decode cX9_works 14 = .ok (.isub, 1) := by decide +kernel
theorem dX9_works_15 : decode cX9_works 15 = .ok (.istore_n 3, 1) := by decide +kernel
theorem dX9_works_16 : decode cX9_works 16 = .ok (.iload_n 3, 1) := by decide +kernel
theorem dX9_works_17 : decode cX9_works 17 = .ok (.iload_n 2, 1) := by decide +kernel
theorem dX9_works_18 : decode cX9_works 18 = .ok (.if_icmp .lt 21, 3) := by decide +kernel
theorem dX9_works_21 : decode cX9_works 21 = .ok (.aload_n 0, 1) := by decide +kernel
theorem dX9_works_22 : decode cX9_works 22 = .ok (.getfield 19, 3) := by decide +kernel
theorem dX9_works_25 : decode cX9_works 25 = .ok (.iload_n 3, 1) := by decide +kernel
theorem dX9_works_26 : decode cX9_works 26 = .ok (.aload_n 0, 1) := by decide +kernel
theorem dX9_works_27 : decode cX9_works 27 = .ok (.iload_n 3, 1) := by decide +kernel
theorem dX9_works_28 : decode cX9_works 28 = .ok (.iload_n 1, 1) := by decide +kernel
theorem dX9_works_29 : decode cX9_works 29 = .ok (.invokevirtual 198, 3) := by decide +kernel
theorem dX9_works_32 : decode cX9_works 32 = .ok (.iastore, 1) := by decide +kernel
theorem dX9_works_33 : decode cX9_works 33 = .ok (.iinc 3 (-1), 3) := by decide +kernel
theorem dX9_works_36 : decode cX9_works 36 = .ok (.goto (-20), 3) := by decide +kernel
theorem dX9_works_39 : decode cX9_works 39 = .ok (.aload_n 0, 1) := by decide +kernel
theorem dX9_works_40 : decode cX9_works 40 = .ok (.getfield 19, 3) := by decide +kernel
theorem dX9_works_43 : decode cX9_works 43 = .ok (.iload_n 2, 1) := by decide +kernel
theorem dX9_works_44 : decode cX9_works 44 = .ok (.iaload, 1) := by decide +kernel
theorem dX9_works_45 : decode cX9_works 45 = .ok (.ireturn, 1) := by decide +kernel
theorem dX9_goes_0 : decode cX9_goes 0 = .ok (.iload_n 1, 1) := by decide +kernel
theorem dX9_goes_1 : decode cX9_goes 1 = .ok (.iconst 0, 1) := by decide +kernel
theorem dX9_goes_2 : decode cX9_goes 2 = .ok (.iconst 2, 1) := by decide +kernel
theorem dX9_goes_3 : decode cX9_goes 3 = .ok (.invokestatic 79, 3) := by decide +kernel
theorem dX9_goes_6 : decode cX9_goes 6 = .ok (.ifCond .eq 11, 3) := by decide +kernel
theorem dX9_goes_9 : decode cX9_goes 9 = .ok (.aload_n 0, 1) := by decide +kernel
theorem dX9_goes_10 : decode cX9_goes 10 = .ok (.iload_n 1, 1) := by decide +kernel
theorem dX9_goes_11 : decode cX9_goes 11 = .ok (.invokevirtual 201, 3) := by decide +kernel
theorem dX9_goes_14 : decode cX9_goes 14 = .ok (.goto 5, 3) := by decide +kernel
theorem dX9_goes_17 : decode cX9_goes 17 = .ok (.ldc 118, 2) := by decide +kernel
theorem dX9_goes_19 : decode cX9_goes 19 = .ok (.ireturn, 1) := by decide +kernel
theorem dX9_game_0 : decode cX9_game 0 = .ok (.iload_n 1, 1) := by decide +kernel
theorem dX9_game_1 : decode cX9_game 1 = .ok (.iconst 0, 1) := by decide +kernel
theorem dX9_game_2 : decode cX9_game 2 = .ok (.iconst 1, 1) := by decide +kernel
theorem dX9_game_3 : decode cX9_game 3 = .ok (.invokestatic 79, 3) := by decide +kernel
theorem dX9_game_6 : decode cX9_game 6 = .ok (.ifCond .ne 6, 3) := by decide +kernel
theorem dX9_game_9 : decode cX9_game 9 = .ok (.ldc 118, 2) := by decide +kernel
theorem dX9_game_11 : decode cX9_game 11 = .ok (.ireturn, 1) := by decide +kernel
theorem dX9_game_12 : decode cX9_game 12 = .ok (.aload_n 0, 1) := by decide +kernel
theorem dX9_game_13 : decode cX9_game 13 = .ok (.iconst 3, 1) := by decide +kernel
theorem dX9_game_14 : decode cX9_game 14 = .ok (.invokevirtual 201, 3) := by decide +kernel
theorem dX9_game_17 : decode cX9_game 17 = .ok (.istore_n 2, 1) := by decide +kernel
theorem dX9_game_18 : decode cX9_game 18 = .ok (.aload_n 0, 1) := by decide +kernel
theorem dX9_game_19 : decode cX9_game 19 = .ok (.invokevirtual 111, 3) := by decide +kernel
theorem dX9_game_22 : decode cX9_game 22 = .ok (.istore_n 3, 1) := by decide +kernel
theorem dX9_game_23 : decode cX9_game 23 = .ok (.iconst 0, 1) := by decide +kernel
theorem dX9_game_24 : decode cX9_game 24 = .ok (.istore 4, 2) := by decide +kernel
theorem dX9_game_26 : decode cX9_game 26 = .ok (.iconst 0, 1) := by decide +kernel
theorem dX9_game_27 : decode cX9_game 27 = .ok (.istore 5, 2) := by decide +kernel
theorem dX9_game_29 : decode cX9_game 29 = .ok (.iload 5, 2) := by decide +kernel
theorem dX9_game_31 : decode cX9_game 31 = .ok (.aload_n 0, 1) := by decide +kernel
theorem dX9_game_32 : decode cX9_game 32 = .ok (.getfield 9, 3) := by decide +kernel
theorem dX9_game_35 : decode cX9_game 35 = .ok (.iconst 2, 1) := by decide +kernel
theorem dX9_game_36 : decode cX9_game 36 = .ok (.iaload, 1) := by decide +kernel
theorem dX9_game_37 : decode cX9_game 37 = .ok (.if_icmp .ge 46, 3) := by decide +kernel
theorem dX9_game_40 : decode cX9_game 40 = .ok (.iload 4, 2) := by decide +kernel
theorem dX9_game_42 : decode cX9_game 42 = .ok (.aload_n 0, 1) := by decide +kernel
theorem dX9_game_43 : decode cX9_game 43 = .ok (.iload_n 3, 1) := by decide +kernel
theorem dX9_game_44 : decode cX9_game 44 = .ok (.iload 5, 2) := by decide +kernel
theorem dX9_game_46 : decode cX9_game 46 = .ok (.invokevirtual 193, 3) := by decide +kernel
theorem dX9_game_49 : decode cX9_game 49 = .ok (.ifCond .eq 24, 3) := by decide +kernel
theorem dX9_game_52 : decode cX9_game 52 = .ok (.aload_n 0, 1) := by decide +kernel
theorem dX9_game_53 : decode cX9_game 53 = .ok (.getfield 19, 3) := by decide +kernel
theorem dX9_game_56 : decode cX9_game 56 = .ok (.iload_n 3, 1) := by decide +kernel
theorem dX9_game_57 : decode cX9_game 57 = .ok (.iconst 1, 1) := by decide +kernel
theorem dX9_game_58 : decode cX9_game 58 = .ok (.iload 5, 2) := by decide +kernel
theorem dX9_game_60 : decode cX9_game 60 = .ok (.ishl, 1) := by decide +kernel
theorem dX9_game_61 : decode cX9_game 61 = .ok (.ior, 1) := by decide +kernel
theorem dX9_game_62 : decode cX9_game 62 = .ok (.iaload, 1) := by decide +kernel
theorem dX9_game_63 : decode cX9_game 63 = .ok (.ifCond .ne 10, 3) := by decide +kernel
theorem dX9_game_66 : decode cX9_game 66 = .ok (.iconst 1, 1) := by decide +kernel
theorem dX9_game_67 : decode cX9_game 67 = .ok (.iload 5, 2) := by decide +kernel
theorem dX9_game_69 : decode cX9_game 69 = .ok (.ishl, 1) := by decide +kernel
theorem dX9_game_70 : decode cX9_game 70 = .ok (.goto 4, 3) := by decide +kernel
theorem dX9_game_73 : decode cX9_game 73 = .ok (.iconst 0, 1) := by decide +kernel
theorem dX9_game_74 : decode cX9_game 74 = .ok (.ior, 1) := by decide +kernel
theorem dX9_game_75 : decode cX9_game 75 = .ok (.istore 4, 2) := by decide +kernel
theorem dX9_game_77 : decode cX9_game 77 = .ok (.iinc 5 1, 3) := by decide +kernel
theorem dX9_game_80 : decode cX9_game 80 = .ok (.goto (-51), 3) := by decide +kernel
theorem dX9_game_83 : decode cX9_game 83 = .ok (.iload_n 1, 1) := by decide +kernel
theorem dX9_game_84 : decode cX9_game 84 = .ok (.ifCond .ne 7, 3) := by decide +kernel
theorem dX9_game_87 : decode cX9_game 87 = .ok (.iload_n 2, 1) := by decide +kernel
theorem dX9_game_88 : decode cX9_game 88 = .ok (.goto 5, 3) := by decide +kernel
theorem dX9_game_91 : decode cX9_game 91 = .ok (.iload 4, 2) := by decide +kernel
theorem dX9_game_93 : decode cX9_game 93 = .ok (.ireturn, 1) := by decide +kernel
theorem dX9_worthy_0 : decode cX9_worthy 0 = .ok (.iload_n 1, 1) := by decide +kernel
theorem dX9_worthy_1 : decode cX9_worthy 1 = .ok (.iconst 0, 1) := by decide +kernel
theorem dX9_worthy_2 : decode cX9_worthy 2 = .ok (.iconst 1, 1) := by decide +kernel
theorem dX9_worthy_3 : decode cX9_worthy 3 = .ok (.invokestatic 79, 3) := by decide +kernel
theorem dX9_worthy_6 : decode cX9_worthy 6 = .ok (.ifCond .ne 6, 3) := by decide +kernel
theorem dX9_worthy_9 : decode cX9_worthy 9 = .ok (.ldc 118, 2) := by decide +kernel
theorem dX9_worthy_11 : decode cX9_worthy 11 = .ok (.ireturn, 1) := by decide +kernel
theorem dX9_worthy_12 : decode cX9_worthy 12 = .ok (.aload_n 0, 1) := by decide +kernel
theorem dX9_worthy_13 : decode cX9_worthy 13 = .ok (.invokevirtual 111, 3) := by decide +kernel
theorem dX9_worthy_16 : decode cX9_worthy 16 = .ok (.istore_n 2, 1) := by decide +kernel
theorem dX9_worthy_17 : decode cX9_worthy 17 = .ok (.iconst (-1), 1) := by decide +kernel
theorem dX9_worthy_18 : decode cX9_worthy 18 = .ok (.istore_n 3, 1) := by decide +kernel
theorem dX9_worthy_19 : decode cX9_worthy 19 = .ok (.iconst 0, 1) := by decide +kernel
theorem dX9_worthy_20 : decode cX9_worthy 20 = .ok (.istore 4, 2) := by decide +kernel
theorem dX9_worthy_22 : decode cX9_worthy 22 = .ok (.iconst 0, 1) := by decide +kernel
theorem dX9_worthy_23 : decode cX9_worthy 23 = .ok (.istore 5, 2) := by decide +kernel
theorem dX9_worthy_25 : decode cX9_worthy 25 = .ok (.iload 5, 2) := by decide +kernel
theorem dX9_worthy_27 : decode cX9_worthy 27 = .ok (.aload_n 0, 1) := by decide +kernel
theorem dX9_worthy_28 : decode cX9_worthy 28 = .ok (.getfield 9, 3) := by decide +kernel
theorem dX9_worthy_31 : decode cX9_worthy 31 = .ok (.iconst 2, 1) := by decide +kernel
theorem dX9_worthy_32 : decode cX9_worthy 32 = .ok (.iaload, 1) := by decide +kernel
theorem dX9_worthy_33 : decode cX9_worthy 33 = .ok (.if_icmp .ge 73, 3) := by decide +kernel
theorem dX9_worthy_36 : decode cX9_worthy 36 = .ok (.iload_n 2, 1) := by decide +kernel
theorem dX9_worthy_37 : decode cX9_worthy 37 = .ok (.iload 5, 2) := by decide +kernel
theorem dX9_worthy_39 : decode cX9_worthy 39 = .ok (.ishr, 1) := by decide +kernel
theorem dX9_worthy_40 : decode cX9_worthy 40 = .ok (.iconst 1, 1) := by decide +kernel
theorem dX9_worthy_41 : decode cX9_worthy 41 = .ok (.iand, 1) := by decide +kernel
theorem dX9_worthy_42 : decode cX9_worthy 42 = .ok (.ifCond .ne 58, 3) := by decide +kernel
theorem dX9_worthy_45 : decode cX9_worthy 45 = .ok (.aload_n 0, 1) := by decide +kernel
theorem dX9_worthy_46 : decode cX9_worthy 46 = .ok (.getfield 9, 3) := by decide +kernel
theorem dX9_worthy_49 : decode cX9_worthy 49 = .ok (.bipush 12, 2) := by decide +kernel
theorem dX9_worthy_51 : decode cX9_worthy 51 = .ok (.iload 5, 2) := by decide +kernel
theorem dX9_worthy_53 : decode cX9_worthy 53 = .ok (.iadd, 1) := by decide +kernel
theorem dX9_worthy_54 : decode cX9_worthy 54 = .ok (.dup2, 1) := by decide +kernel
theorem dX9_worthy_55 : decode cX9_worthy 55 = .ok (.iaload, 1) := by decide +kernel
theorem dX9_worthy_56 : decode cX9_worthy 56 = .ok (.bipush 50, 2) := by decide +kernel
theorem dX9_worthy_58 : decode cX9_worthy 58 = .ok (.iadd, 1) := by decide +kernel
theorem dX9_worthy_59 : decode cX9_worthy 59 = .ok (.iastore, 1) := by decide +kernel
theorem dX9_worthy_60 : decode cX9_worthy 60 = .ok (.aload_n 0, 1) := by decide +kernel
theorem dX9_worthy_61 : decode cX9_worthy 61 = .ok (.iconst 4, 1) := by decide +kernel
theorem dX9_worthy_62 : decode cX9_worthy 62 = .ok (.invokevirtual 201, 3) := by decide +kernel
theorem dX9_worthy_65 : decode cX9_worthy 65 = .ok (.istore 6, 2) := by decide +kernel
theorem dX9_worthy_67 : decode cX9_worthy 67 = .ok (.aload_n 0, 1) := by decide +kernel
theorem dX9_worthy_68 : decode cX9_worthy 68 = .ok (.getfield 9, 3) := by decide +kernel
theorem dX9_worthy_71 : decode cX9_worthy 71 = .ok (.bipush 12, 2) := by decide +kernel
theorem dX9_worthy_73 : decode cX9_worthy 73 = .ok (.iload 5, 2) := by decide +kernel
theorem dX9_worthy_75 : decode cX9_worthy 75 = .ok (.iadd, 1) := by decide +kernel
theorem dX9_worthy_76 : decode cX9_worthy 76 = .ok (.dup2, 1) := by decide +kernel
theorem dX9_worthy_77 : decode cX9_worthy 77 = .ok (.iaload, 1) := by decide +kernel
theorem dX9_worthy_78 : decode cX9_worthy 78 = .ok (.bipush 50, 2) := by decide +kernel
theorem dX9_worthy_80 : decode cX9_worthy 80 = .ok (.isub, 1) := by decide +kernel
theorem dX9_worthy_81 : decode cX9_worthy 81 = .ok (.iastore, 1) := by decide +kernel
theorem dX9_worthy_82 : decode cX9_worthy 82 = .ok (.iload_n 3, 1) := by decide +kernel
theorem dX9_worthy_83 : decode cX9_worthy 83 = .ok (.ifCond .lt 10, 3) := by decide +kernel
theorem dX9_worthy_86 : decode cX9_worthy 86 = .ok (.iload 6, 2) := by decide +kernel
theorem dX9_worthy_88 : decode cX9_worthy 88 = .ok (.iload 4, 2) := by decide +kernel
theorem dX9_worthy_90 : decode cX9_worthy 90 = .ok (.if_icmp .le 10, 3) := by decide +kernel
theorem dX9_worthy_93 : decode cX9_worthy 93 = .ok (.iload 5, 2) := by decide +kernel
theorem dX9_worthy_95 : decode cX9_worthy 95 = .ok (.istore_n 3, 1) := by decide +kernel
theorem dX9_worthy_96 : decode cX9_worthy 96 = .ok (.iload 6, 2) := by decide +kernel
theorem dX9_worthy_98 : decode cX9_worthy 98 = .ok (.istore 4, 2) := by decide +kernel
theorem dX9_worthy_100 : decode cX9_worthy 100 = .ok (.iinc 5 1, 3) := by decide +kernel
theorem dX9_worthy_103 : decode cX9_worthy 103 = .ok (.goto (-78), 3) := by decide +kernel
theorem dX9_worthy_106 : decode cX9_worthy 106 = .ok (.iload_n 3, 1) := by decide +kernel
theorem dX9_worthy_107 : decode cX9_worthy 107 = .ok (.ifCond .ge 8, 3) := by decide +kernel
theorem dX9_worthy_110 : decode cX9_worthy 110 = .ok (.ldc 78, 2) := by decide +kernel
theorem dX9_worthy_112 : decode cX9_worthy 112 = .ok (.goto 13, 3) := by decide +kernel
theorem dX9_worthy_115 : decode cX9_worthy 115 = .ok (.iload_n 1, 1) := by decide +kernel
theorem dX9_worthy_116 : decode cX9_worthy 116 = .ok (.ifCond .ne 7, 3) := by decide +kernel
theorem dX9_worthy_119 : decode cX9_worthy 119 = .ok (.iload_n 3, 1) := by decide +kernel
theorem dX9_worthy_120 : decode cX9_worthy 120 = .ok (.goto 5, 3) := by decide +kernel
theorem dX9_worthy_123 : decode cX9_worthy 123 = .ok (.iload 4, 2) := by decide +kernel
theorem dX9_worthy_125 : decode cX9_worthy 125 = .ok (.ireturn, 1) := by decide +kernel
theorem dX9_thinks_0 : decode cX9_thinks 0 = .ok (.iconst 0, 1) := by decide +kernel
theorem dX9_thinks_1 : decode cX9_thinks 1 = .ok (.istore_n 1, 1) := by decide +kernel
theorem dX9_thinks_2 : decode cX9_thinks 2 = .ok (.iload_n 1, 1) := by decide +kernel
theorem dX9_thinks_3 : decode cX9_thinks 3 = .ok (.bipush 72, 2) := by decide +kernel
theorem dX9_thinks_5 : decode cX9_thinks 5 = .ok (.if_icmp .ge 21, 3) := by decide +kernel
theorem dX9_thinks_8 : decode cX9_thinks 8 = .ok (.aload_n 0, 1) := by decide +kernel
theorem dX9_thinks_9 : decode cX9_thinks 9 = .ok (.getfield 22, 3) := by decide +kernel
theorem dX9_thinks_12 : decode cX9_thinks 12 = .ok (.iload_n 1, 1) := by decide +kernel
theorem dX9_thinks_13 : decode cX9_thinks 13 = .ok (.aload_n 0, 1) := by decide +kernel
theorem dX9_thinks_14 : decode cX9_thinks 14 = .ok (.getfield 9, 3) := by decide +kernel
theorem dX9_thinks_17 : decode cX9_thinks 17 = .ok (.iload_n 1, 1) := by decide +kernel
theorem dX9_thinks_18 : decode cX9_thinks 18 = .ok (.iaload, 1) := by decide +kernel
theorem dX9_thinks_19 : decode cX9_thinks 19 = .ok (.iastore, 1) := by decide +kernel
theorem dX9_thinks_20 : decode cX9_thinks 20 = .ok (.iinc 1 1, 3) := by decide +kernel
theorem dX9_thinks_23 : decode cX9_thinks 23 = .ok (.goto (-21), 3) := by decide +kernel
theorem dX9_thinks_26 : decode cX9_thinks 26 = .ok (.return_, 1) := by decide +kernel
theorem dX9_putsBack_0 : decode cX9_putsBack 0 = .ok (.iconst 0, 1) := by decide +kernel
theorem dX9_putsBack_1 : decode cX9_putsBack 1 = .ok (.istore_n 1, 1) := by decide +kernel
theorem dX9_putsBack_2 : decode cX9_putsBack 2 = .ok (.iload_n 1, 1) := by decide +kernel
theorem dX9_putsBack_3 : decode cX9_putsBack 3 = .ok (.bipush 72, 2) := by decide +kernel
theorem dX9_putsBack_5 : decode cX9_putsBack 5 = .ok (.if_icmp .ge 21, 3) := by decide +kernel
theorem dX9_putsBack_8 : decode cX9_putsBack 8 = .ok (.aload_n 0, 1) := by decide +kernel
theorem dX9_putsBack_9 : decode cX9_putsBack 9 = .ok (.getfield 9, 3) := by decide +kernel
theorem dX9_putsBack_12 : decode cX9_putsBack 12 = .ok (.iload_n 1, 1) := by decide +kernel
theorem dX9_putsBack_13 : decode cX9_putsBack 13 = .ok (.aload_n 0, 1) := by decide +kernel
theorem dX9_putsBack_14 : decode cX9_putsBack 14 = .ok (.getfield 22, 3) := by decide +kernel
theorem dX9_putsBack_17 : decode cX9_putsBack 17 = .ok (.iload_n 1, 1) := by decide +kernel
theorem dX9_putsBack_18 : decode cX9_putsBack 18 = .ok (.iaload, 1) := by decide +kernel
theorem dX9_putsBack_19 : decode cX9_putsBack 19 = .ok (.iastore, 1) := by decide +kernel
theorem dX9_putsBack_20 : decode cX9_putsBack 20 = .ok (.iinc 1 1, 3) := by decide +kernel
theorem dX9_putsBack_23 : decode cX9_putsBack 23 = .ok (.goto (-21), 3) := by decide +kernel
theorem dX9_putsBack_26 : decode cX9_putsBack 26 = .ok (.return_, 1) := by decide +kernel
theorem dX9_behind_0 : decode cX9_behind 0 = .ok (.iload_n 1, 1) := by decide +kernel
theorem dX9_behind_1 : decode cX9_behind 1 = .ok (.iconst 0, 1) := by decide +kernel
theorem dX9_behind_2 : decode cX9_behind 2 = .ok (.bipush 100, 2) := by decide +kernel
theorem dX9_behind_4 : decode cX9_behind 4 = .ok (.invokestatic 79, 3) := by decide +kernel
theorem dX9_behind_7 : decode cX9_behind 7 = .ok (.ifCond .eq 22, 3) := by decide +kernel
theorem dX9_behind_10 : decode cX9_behind 10 = .ok (.iload_n 2, 1) := by decide +kernel
theorem dX9_behind_11 : decode cX9_behind 11 = .ok (.ifCond .lt 18, 3) := by decide +kernel
theorem dX9_behind_14 : decode cX9_behind 14 = .ok (.iload_n 2, 1) := by decide +kernel
theorem dX9_behind_15 : decode cX9_behind 15 = .ok (.iconst 2, 1) := by decide +kernel
theorem dX9_behind_16 : decode cX9_behind 16 = .ok (.if_icmp .le 16, 3) := by decide +kernel
theorem dX9_behind_19 : decode cX9_behind 19 = .ok (.aload_n 0, 1) := by decide +kernel
theorem dX9_behind_20 : decode cX9_behind 20 = .ok (.iload_n 2, 1) := by decide +kernel
theorem dX9_behind_21 : decode cX9_behind 21 = .ok (.iconst 3, 1) := by decide +kernel
theorem dX9_behind_22 : decode cX9_behind 22 = .ok (.isub, 1) := by decide +kernel
theorem dX9_behind_23 : decode cX9_behind 23 = .ok (.invokevirtual 130, 3) := by decide +kernel
theorem dX9_behind_26 : decode cX9_behind 26 = .ok (.ifCond .ne 6, 3) := by decide +kernel
theorem dX9_behind_29 : decode cX9_behind 29 = .ok (.ldc 118, 2) := by decide +kernel
theorem dX9_behind_31 : decode cX9_behind 31 = .ok (.ireturn, 1) := by decide +kernel
theorem dX9_behind_32 : decode cX9_behind 32 = .ok (.aload_n 0, 1) := by decide +kernel
theorem dX9_behind_33 : decode cX9_behind 33 = .ok (.invokevirtual 204, 3) := by decide +kernel
theorem dX9_behind_36 : decode cX9_behind 36 = .ok (.aload_n 0, 1) := by decide +kernel
theorem dX9_behind_37 : decode cX9_behind 37 = .ok (.iload_n 1, 1) := by decide +kernel
theorem dX9_behind_38 : decode cX9_behind 38 = .ok (.invokevirtual 189, 3) := by decide +kernel
theorem dX9_behind_41 : decode cX9_behind 41 = .ok (.iload_n 2, 1) := by decide +kernel
theorem dX9_behind_42 : decode cX9_behind 42 = .ok (.iconst 2, 1) := by decide +kernel
theorem dX9_behind_43 : decode cX9_behind 43 = .ok (.if_icmp .le 14, 3) := by decide +kernel
theorem dX9_behind_46 : decode cX9_behind 46 = .ok (.aload_n 0, 1) := by decide +kernel
theorem dX9_behind_47 : decode cX9_behind 47 = .ok (.iload_n 2, 1) := by decide +kernel
theorem dX9_behind_48 : decode cX9_behind 48 = .ok (.iconst 3, 1) := by decide +kernel
theorem dX9_behind_49 : decode cX9_behind 49 = .ok (.isub, 1) := by decide +kernel
theorem dX9_behind_50 : decode cX9_behind 50 = .ok (.iconst 1, 1) := by decide +kernel
theorem dX9_behind_51 : decode cX9_behind 51 = .ok (.invokevirtual 87, 3) := by decide +kernel
theorem dX9_behind_54 : decode cX9_behind 54 = .ok (.goto 8, 3) := by decide +kernel
theorem dX9_behind_57 : decode cX9_behind 57 = .ok (.aload_n 0, 1) := by decide +kernel
theorem dX9_behind_58 : decode cX9_behind 58 = .ok (.iload_n 2, 1) := by decide +kernel
theorem dX9_behind_59 : decode cX9_behind 59 = .ok (.invokevirtual 207, 3) := by decide +kernel
theorem dX9_behind_62 : decode cX9_behind 62 = .ok (.istore_n 3, 1) := by decide +kernel
theorem dX9_behind_63 : decode cX9_behind 63 = .ok (.aload_n 0, 1) := by decide +kernel
theorem dX9_behind_64 : decode cX9_behind 64 = .ok (.invokevirtual 210, 3) := by decide +kernel
theorem dX9_behind_67 : decode cX9_behind 67 = .ok (.iload_n 3, 1) := by decide +kernel
theorem dX9_behind_68 : decode cX9_behind 68 = .ok (.ireturn, 1) := by decide +kernel
theorem dX9_isFullUp_0 : decode cX9_isFullUp 0 = .ok (.iconst 1, 1) := by decide +kernel
theorem dX9_isFullUp_1 : decode cX9_isFullUp 1 = .ok (.istore_n 1, 1) := by decide +kernel
theorem dX9_isFullUp_2 : decode cX9_isFullUp 2 = .ok (.iconst 0, 1) := by decide +kernel
theorem dX9_isFullUp_3 : decode cX9_isFullUp 3 = .ok (.istore_n 2, 1) := by decide +kernel
theorem dX9_isFullUp_4 : decode cX9_isFullUp 4 = .ok (.iload_n 2, 1) := by decide +kernel
theorem dX9_isFullUp_5 : decode cX9_isFullUp 5 = .ok (.aload_n 0, 1) := by decide +kernel
theorem dX9_isFullUp_6 : decode cX9_isFullUp 6 = .ok (.getfield 9, 3) := by decide +kernel
theorem dX9_isFullUp_9 : decode cX9_isFullUp 9 = .ok (.iconst 1, 1) := by decide +kernel
theorem dX9_isFullUp_10 : decode cX9_isFullUp 10 = .ok (.iaload, 1) := by decide +kernel
theorem dX9_isFullUp_11 : decode cX9_isFullUp 11 = .ok (.if_icmp .ge 27, 3) := by decide +kernel
theorem dX9_isFullUp_14 : decode cX9_isFullUp 14 = .ok (.iload_n 1, 1) := by decide +kernel
theorem dX9_isFullUp_15 : decode cX9_isFullUp 15 = .ok (.ifCond .eq 15, 3) := by decide +kernel
theorem dX9_isFullUp_18 : decode cX9_isFullUp 18 = .ok (.aload_n 0, 1) := by decide +kernel
theorem dX9_isFullUp_19 : decode cX9_isFullUp 19 = .ok (.iload_n 2, 1) := by decide +kernel
theorem dX9_isFullUp_20 : decode cX9_isFullUp 20 = .ok (.invokevirtual 133, 3) := by decide +kernel
theorem dX9_isFullUp_23 : decode cX9_isFullUp 23 = .ok (.ifCond .ne 7, 3) := by decide +kernel
theorem dX9_isFullUp_26 : decode cX9_isFullUp 26 = .ok (.iconst 1, 1) := by decide +kernel
theorem dX9_isFullUp_27 : decode cX9_isFullUp 27 = .ok (.goto 4, 3) := by decide +kernel
theorem dX9_isFullUp_30 : decode cX9_isFullUp 30 = .ok (.iconst 0, 1) := by decide +kernel
theorem dX9_isFullUp_31 : decode cX9_isFullUp 31 = .ok (.istore_n 1, 1) := by decide +kernel
theorem dX9_isFullUp_32 : decode cX9_isFullUp 32 = .ok (.iinc 2 1, 3) := by decide +kernel
theorem dX9_isFullUp_35 : decode cX9_isFullUp 35 = .ok (.goto (-31), 3) := by decide +kernel
theorem dX9_isFullUp_38 : decode cX9_isFullUp 38 = .ok (.iload_n 1, 1) := by decide +kernel
theorem dX9_isFullUp_39 : decode cX9_isFullUp 39 = .ok (.ireturn, 1) := by decide +kernel
theorem dX9_fullUp_0 : decode cX9_fullUp 0 = .ok (.aload_n 0, 1) := by decide +kernel
theorem dX9_fullUp_1 : decode cX9_fullUp 1 = .ok (.invokevirtual 204, 3) := by decide +kernel
theorem dX9_fullUp_4 : decode cX9_fullUp 4 = .ok (.iconst 0, 1) := by decide +kernel
theorem dX9_fullUp_5 : decode cX9_fullUp 5 = .ok (.istore_n 1, 1) := by decide +kernel
theorem dX9_fullUp_6 : decode cX9_fullUp 6 = .ok (.iload_n 1, 1) := by decide +kernel
theorem dX9_fullUp_7 : decode cX9_fullUp 7 = .ok (.sipush 200, 3) := by decide +kernel
theorem dX9_fullUp_10 : decode cX9_fullUp 10 = .ok (.if_icmp .gt 20, 3) := by decide +kernel
theorem dX9_fullUp_13 : decode cX9_fullUp 13 = .ok (.aload_n 0, 1) := by decide +kernel
theorem dX9_fullUp_14 : decode cX9_fullUp 14 = .ok (.invokevirtual 213, 3) := by decide +kernel
theorem dX9_fullUp_17 : decode cX9_fullUp 17 = .ok (.ifCond .ne 13, 3) := by decide +kernel
theorem dX9_fullUp_20 : decode cX9_fullUp 20 = .ok (.aload_n 0, 1) := by decide +kernel
theorem dX9_fullUp_21 : decode cX9_fullUp 21 = .ok (.invokevirtual 186, 3) := by decide +kernel
theorem dX9_fullUp_24 : decode cX9_fullUp 24 = .ok (.iinc 1 1, 3) := by decide +kernel
theorem dX9_fullUp_27 : decode cX9_fullUp 27 = .ok (.goto (-21), 3) := by decide +kernel
theorem dX9_fullUp_30 : decode cX9_fullUp 30 = .ok (.aload_n 0, 1) := by decide +kernel
theorem dX9_fullUp_31 : decode cX9_fullUp 31 = .ok (.invokevirtual 210, 3) := by decide +kernel
theorem dX9_fullUp_34 : decode cX9_fullUp 34 = .ok (.iload_n 1, 1) := by decide +kernel
theorem dX9_fullUp_35 : decode cX9_fullUp 35 = .ok (.sipush 200, 3) := by decide +kernel
theorem dX9_fullUp_38 : decode cX9_fullUp 38 = .ok (.if_icmp .le 8, 3) := by decide +kernel
theorem dX9_fullUp_41 : decode cX9_fullUp 41 = .ok (.ldc 78, 2) := by decide +kernel
theorem dX9_fullUp_43 : decode cX9_fullUp 43 = .ok (.goto 4, 3) := by decide +kernel
theorem dX9_fullUp_46 : decode cX9_fullUp 46 = .ok (.iload_n 1, 1) := by decide +kernel
theorem dX9_fullUp_47 : decode cX9_fullUp 47 = .ok (.ireturn, 1) := by decide +kernel
theorem dX9_rose_0 : decode cX9_rose 0 = .ok (.iload_n 1, 1) := by decide +kernel
theorem dX9_rose_1 : decode cX9_rose 1 = .ok (.iconst 1, 1) := by decide +kernel
theorem dX9_rose_2 : decode cX9_rose 2 = .ok (.bipush 60, 2) := by decide +kernel
theorem dX9_rose_4 : decode cX9_rose 4 = .ok (.invokestatic 79, 3) := by decide +kernel
theorem dX9_rose_7 : decode cX9_rose 7 = .ok (.ifCond .eq 12, 3) := by decide +kernel
theorem dX9_rose_10 : decode cX9_rose 10 = .ok (.iload_n 2, 1) := by decide +kernel
theorem dX9_rose_11 : decode cX9_rose 11 = .ok (.iconst 0, 1) := by decide +kernel
theorem dX9_rose_12 : decode cX9_rose 12 = .ok (.iconst 1, 1) := by decide +kernel
theorem dX9_rose_13 : decode cX9_rose 13 = .ok (.invokestatic 79, 3) := by decide +kernel
theorem dX9_rose_16 : decode cX9_rose 16 = .ok (.ifCond .ne 6, 3) := by decide +kernel
theorem dX9_rose_19 : decode cX9_rose 19 = .ok (.ldc 118, 2) := by decide +kernel
theorem dX9_rose_21 : decode cX9_rose 21 = .ok (.ireturn, 1) := by decide +kernel
theorem dX9_rose_22 : decode cX9_rose 22 = .ok (.aload_n 0, 1) := by decide +kernel
theorem dX9_rose_23 : decode cX9_rose 23 = .ok (.invokevirtual 204, 3) := by decide +kernel
theorem dX9_rose_26 : decode cX9_rose 26 = .ok (.iconst (-1), 1) := by decide +kernel
theorem dX9_rose_27 : decode cX9_rose 27 = .ok (.istore_n 3, 1) := by decide +kernel
theorem dX9_rose_28 : decode cX9_rose 28 = .ok (.iconst 0, 1) := by decide +kernel
theorem dX9_rose_29 : decode cX9_rose 29 = .ok (.istore 4, 2) := by decide +kernel
theorem dX9_rose_31 : decode cX9_rose 31 = .ok (.iconst 0, 1) := by decide +kernel
theorem dX9_rose_32 : decode cX9_rose 32 = .ok (.istore 5, 2) := by decide +kernel
theorem dX9_rose_34 : decode cX9_rose 34 = .ok (.iload 5, 2) := by decide +kernel
theorem dX9_rose_36 : decode cX9_rose 36 = .ok (.aload_n 0, 1) := by decide +kernel
theorem dX9_rose_37 : decode cX9_rose 37 = .ok (.getfield 9, 3) := by decide +kernel
theorem dX9_rose_40 : decode cX9_rose 40 = .ok (.iconst 1, 1) := by decide +kernel
theorem dX9_rose_41 : decode cX9_rose 41 = .ok (.iaload, 1) := by decide +kernel
theorem dX9_rose_42 : decode cX9_rose 42 = .ok (.if_icmp .ge 63, 3) := by decide +kernel
theorem dX9_rose_45 : decode cX9_rose 45 = .ok (.aload_n 0, 1) := by decide +kernel
theorem dX9_rose_46 : decode cX9_rose 46 = .ok (.iload 5, 2) := by decide +kernel
theorem dX9_rose_48 : decode cX9_rose 48 = .ok (.iconst 1, 1) := by decide +kernel
theorem dX9_rose_49 : decode cX9_rose 49 = .ok (.invokevirtual 87, 3) := by decide +kernel
theorem dX9_rose_52 : decode cX9_rose 52 = .ok (.ifCond .lt 47, 3) := by decide +kernel
theorem dX9_rose_55 : decode cX9_rose 55 = .ok (.aload_n 0, 1) := by decide +kernel
theorem dX9_rose_56 : decode cX9_rose 56 = .ok (.iload 5, 2) := by decide +kernel
theorem dX9_rose_58 : decode cX9_rose 58 = .ok (.iconst 1, 1) := by decide +kernel
theorem dX9_rose_59 : decode cX9_rose 59 = .ok (.iconst (-1), 1) := by decide +kernel
theorem dX9_rose_60 : decode cX9_rose 60 = .ok (.invokevirtual 122, 3) := by decide +kernel
theorem dX9_rose_63 : decode cX9_rose 63 = .ok (.aload_n 0, 1) := by decide +kernel
theorem dX9_rose_64 : decode cX9_rose 64 = .ok (.iload_n 1, 1) := by decide +kernel
theorem dX9_rose_65 : decode cX9_rose 65 = .ok (.invokevirtual 189, 3) := by decide +kernel
theorem dX9_rose_68 : decode cX9_rose 68 = .ok (.aload_n 0, 1) := by decide +kernel
theorem dX9_rose_69 : decode cX9_rose 69 = .ok (.getfield 9, 3) := by decide +kernel
theorem dX9_rose_72 : decode cX9_rose 72 = .ok (.bipush 10, 2) := by decide +kernel
theorem dX9_rose_74 : decode cX9_rose 74 = .ok (.iaload, 1) := by decide +kernel
theorem dX9_rose_75 : decode cX9_rose 75 = .ok (.istore 6, 2) := by decide +kernel
theorem dX9_rose_77 : decode cX9_rose 77 = .ok (.aload_n 0, 1) := by decide +kernel
theorem dX9_rose_78 : decode cX9_rose 78 = .ok (.invokevirtual 210, 3) := by decide +kernel
theorem dX9_rose_81 : decode cX9_rose 81 = .ok (.iload_n 3, 1) := by decide +kernel
theorem dX9_rose_82 : decode cX9_rose 82 = .ok (.ifCond .lt 10, 3) := by decide +kernel
theorem dX9_rose_85 : decode cX9_rose 85 = .ok (.iload 6, 2) := by decide +kernel
theorem dX9_rose_87 : decode cX9_rose 87 = .ok (.iload 4, 2) := by decide +kernel
theorem dX9_rose_89 : decode cX9_rose 89 = .ok (.if_icmp .le 10, 3) := by decide +kernel
theorem dX9_rose_92 : decode cX9_rose 92 = .ok (.iload 5, 2) := by decide +kernel
theorem dX9_rose_94 : decode cX9_rose 94 = .ok (.istore_n 3, 1) := by decide +kernel
theorem dX9_rose_95 : decode cX9_rose 95 = .ok (.iload 6, 2) := by decide +kernel
theorem dX9_rose_97 : decode cX9_rose 97 = .ok (.istore 4, 2) := by decide +kernel
theorem dX9_rose_99 : decode cX9_rose 99 = .ok (.iinc 5 1, 3) := by decide +kernel
theorem dX9_rose_102 : decode cX9_rose 102 = .ok (.goto (-68), 3) := by decide +kernel
theorem dX9_rose_105 : decode cX9_rose 105 = .ok (.iload_n 3, 1) := by decide +kernel
theorem dX9_rose_106 : decode cX9_rose 106 = .ok (.ifCond .ge 8, 3) := by decide +kernel
theorem dX9_rose_109 : decode cX9_rose 109 = .ok (.ldc 78, 2) := by decide +kernel
theorem dX9_rose_111 : decode cX9_rose 111 = .ok (.goto 13, 3) := by decide +kernel
theorem dX9_rose_114 : decode cX9_rose 114 = .ok (.iload_n 2, 1) := by decide +kernel
theorem dX9_rose_115 : decode cX9_rose 115 = .ok (.ifCond .ne 7, 3) := by decide +kernel
theorem dX9_rose_118 : decode cX9_rose 118 = .ok (.iload_n 3, 1) := by decide +kernel
theorem dX9_rose_119 : decode cX9_rose 119 = .ok (.goto 5, 3) := by decide +kernel
theorem dX9_rose_122 : decode cX9_rose 122 = .ok (.iload 4, 2) := by decide +kernel
theorem dX9_rose_124 : decode cX9_rose 124 = .ok (.ireturn, 1) := by decide +kernel
theorem dX9_book_0 : decode cX9_book 0 = .ok (.iload_n 1, 1) := by decide +kernel
theorem dX9_book_1 : decode cX9_book 1 = .ok (.invokestatic 217, 3) := by decide +kernel
theorem dX9_book_4 : decode cX9_book 4 = .ok (.ifCond .ne 6, 3) := by decide +kernel
theorem dX9_book_7 : decode cX9_book 7 = .ok (.ldc 118, 2) := by decide +kernel
theorem dX9_book_9 : decode cX9_book 9 = .ok (.ireturn, 1) := by decide +kernel
theorem dX9_book_10 : decode cX9_book 10 = .ok (.aload_n 0, 1) := by decide +kernel
theorem dX9_book_11 : decode cX9_book 11 = .ok (.getfield 51, 3) := by decide +kernel
theorem dX9_book_14 : decode cX9_book 14 = .ok (.iload_n 1, 1) := by decide +kernel
theorem dX9_book_15 : decode cX9_book 15 = .ok (.iaload, 1) := by decide +kernel
theorem dX9_book_16 : decode cX9_book 16 = .ok (.ifCond .ge 6, 3) := by decide +kernel
theorem dX9_book_19 : decode cX9_book 19 = .ok (.ldc 220, 2) := by decide +kernel
theorem dX9_book_21 : decode cX9_book 21 = .ok (.ireturn, 1) := by decide +kernel
theorem dX9_book_22 : decode cX9_book 22 = .ok (.aload_n 0, 1) := by decide +kernel
theorem dX9_book_23 : decode cX9_book 23 = .ok (.invokevirtual 111, 3) := by decide +kernel
theorem dX9_book_26 : decode cX9_book 26 = .ok (.istore_n 2, 1) := by decide +kernel
theorem dX9_book_27 : decode cX9_book 27 = .ok (.iconst 0, 1) := by decide +kernel
theorem dX9_book_28 : decode cX9_book 28 = .ok (.istore_n 3, 1) := by decide +kernel
theorem dX9_book_29 : decode cX9_book 29 = .ok (.iconst 0, 1) := by decide +kernel
theorem dX9_book_30 : decode cX9_book 30 = .ok (.istore 4, 2) := by decide +kernel
theorem dX9_book_32 : decode cX9_book 32 = .ok (.iload 4, 2) := by decide +kernel
theorem dX9_book_34 : decode cX9_book 34 = .ok (.aload_n 0, 1) := by decide +kernel
theorem dX9_book_35 : decode cX9_book 35 = .ok (.getfield 54, 3) := by decide +kernel
theorem dX9_book_38 : decode cX9_book 38 = .ok (.iload_n 1, 1) := by decide +kernel
theorem dX9_book_39 : decode cX9_book 39 = .ok (.iaload, 1) := by decide +kernel
theorem dX9_book_40 : decode cX9_book 40 = .ok (.if_icmp .ge 61, 3) := by decide +kernel
theorem dX9_book_43 : decode cX9_book 43 = .ok (.aload_n 0, 1) := by decide +kernel
theorem dX9_book_44 : decode cX9_book 44 = .ok (.getfield 57, 3) := by decide +kernel
theorem dX9_book_47 : decode cX9_book 47 = .ok (.bipush 24, 2) := by decide +kernel
theorem dX9_book_49 : decode cX9_book 49 = .ok (.iload_n 1, 1) := by decide +kernel
theorem dX9_book_50 : decode cX9_book 50 = .ok (.imul, 1) := by decide +kernel
theorem dX9_book_51 : decode cX9_book 51 = .ok (.iload 4, 2) := by decide +kernel
theorem dX9_book_53 : decode cX9_book 53 = .ok (.iadd, 1) := by decide +kernel
theorem dX9_book_54 : decode cX9_book 54 = .ok (.iaload, 1) := by decide +kernel
theorem dX9_book_55 : decode cX9_book 55 = .ok (.istore 5, 2) := by decide +kernel
theorem dX9_book_57 : decode cX9_book 57 = .ok (.iload 5, 2) := by decide +kernel
theorem dX9_book_59 : decode cX9_book 59 = .ok (.ldc 78, 2) := by decide +kernel
theorem dX9_book_61 : decode cX9_book 61 = .ok (.if_icmp .eq 34, 3) := by decide +kernel
theorem dX9_book_64 : decode cX9_book 64 = .ok (.aload_n 0, 1) := by decide +kernel
theorem dX9_book_65 : decode cX9_book 65 = .ok (.iload 5, 2) := by decide +kernel
theorem dX9_book_67 : decode cX9_book 67 = .ok (.invokevirtual 98, 3) := by decide +kernel
theorem dX9_book_70 : decode cX9_book 70 = .ok (.ifCond .eq 13, 3) := by decide +kernel
theorem dX9_book_73 : decode cX9_book 73 = .ok (.aload_n 0, 1) := by decide +kernel
theorem dX9_book_74 : decode cX9_book 74 = .ok (.iload_n 2, 1) := by decide +kernel
theorem dX9_book_75 : decode cX9_book 75 = .ok (.iload 5, 2) := by decide +kernel
theorem dX9_book_77 : decode cX9_book 77 = .ok (.invokevirtual 193, 3) := by decide +kernel
theorem dX9_book_80 : decode cX9_book 80 = .ok (.ifCond .ne 5, 3) := by decide +kernel
theorem dX9_book_83 : decode cX9_book 83 = .ok (.iload_n 3, 1) := by decide +kernel
theorem dX9_book_84 : decode cX9_book 84 = .ok (.ireturn, 1) := by decide +kernel
theorem dX9_book_85 : decode cX9_book 85 = .ok (.iload_n 2, 1) := by decide +kernel
theorem dX9_book_86 : decode cX9_book 86 = .ok (.iconst 1, 1) := by decide +kernel
theorem dX9_book_87 : decode cX9_book 87 = .ok (.iload 5, 2) := by decide +kernel
theorem dX9_book_89 : decode cX9_book 89 = .ok (.ishl, 1) := by decide +kernel
theorem dX9_book_90 : decode cX9_book 90 = .ok (.ior, 1) := by decide +kernel
theorem dX9_book_91 : decode cX9_book 91 = .ok (.istore_n 2, 1) := by decide +kernel
theorem dX9_book_92 : decode cX9_book 92 = .ok (.iinc 3 1, 3) := by decide +kernel
theorem dX9_book_95 : decode cX9_book 95 = .ok (.iinc 4 1, 3) := by decide +kernel
theorem dX9_book_98 : decode cX9_book 98 = .ok (.goto (-66), 3) := by decide +kernel
theorem dX9_book_101 : decode cX9_book 101 = .ok (.iload_n 3, 1) := by decide +kernel
theorem dX9_book_102 : decode cX9_book 102 = .ok (.ireturn, 1) := by decide +kernel
theorem dX9_fee_0 : decode cX9_fee 0 = .ok (.aload_n 0, 1) := by decide +kernel
theorem dX9_fee_1 : decode cX9_fee 1 = .ok (.iconst 1, 1) := by decide +kernel
theorem dX9_fee_2 : decode cX9_fee 2 = .ok (.invokevirtual 147, 3) := by decide +kernel
theorem dX9_fee_5 : decode cX9_fee 5 = .ok (.istore_n 1, 1) := by decide +kernel
theorem dX9_fee_6 : decode cX9_fee 6 = .ok (.aload_n 0, 1) := by decide +kernel
theorem dX9_fee_7 : decode cX9_fee 7 = .ok (.getfield 48, 3) := by decide +kernel
theorem dX9_fee_10 : decode cX9_fee 10 = .ok (.iconst 0, 1) := by decide +kernel
theorem dX9_fee_11 : decode cX9_fee 11 = .ok (.aload_n 0, 1) := by decide +kernel
theorem dX9_fee_12 : decode cX9_fee 12 = .ok (.getfield 9, 3) := by decide +kernel
theorem dX9_fee_15 : decode cX9_fee 15 = .ok (.bipush 10, 2) := by decide +kernel
theorem dX9_fee_17 : decode cX9_fee 17 = .ok (.iaload, 1) := by decide +kernel
theorem dX9_fee_18 : decode cX9_fee 18 = .ok (.iastore, 1) := by decide +kernel
theorem dX9_fee_19 : decode cX9_fee 19 = .ok (.aload_n 0, 1) := by decide +kernel
theorem dX9_fee_20 : decode cX9_fee 20 = .ok (.getfield 48, 3) := by decide +kernel
theorem dX9_fee_23 : decode cX9_fee 23 = .ok (.iconst 1, 1) := by decide +kernel
theorem dX9_fee_24 : decode cX9_fee 24 = .ok (.aload_n 0, 1) := by decide +kernel
theorem dX9_fee_25 : decode cX9_fee 25 = .ok (.getfield 9, 3) := by decide +kernel
theorem dX9_fee_28 : decode cX9_fee 28 = .ok (.iconst 5, 1) := by decide +kernel
theorem dX9_fee_29 : decode cX9_fee 29 = .ok (.iaload, 1) := by decide +kernel
theorem dX9_fee_30 : decode cX9_fee 30 = .ok (.iastore, 1) := by decide +kernel
theorem dX9_fee_31 : decode cX9_fee 31 = .ok (.iload_n 1, 1) := by decide +kernel
theorem dX9_fee_32 : decode cX9_fee 32 = .ok (.ifCond .ge 13, 3) := by decide +kernel
theorem dX9_fee_35 : decode cX9_fee 35 = .ok (.aload_n 0, 1) := by decide +kernel
theorem dX9_fee_36 : decode cX9_fee 36 = .ok (.getfield 9, 3) := by decide +kernel
theorem dX9_fee_39 : decode cX9_fee 39 = .ok (.bipush 10, 2) := by decide +kernel
theorem dX9_fee_41 : decode cX9_fee 41 = .ok (.iaload, 1) := by decide +kernel
theorem dX9_fee_42 : decode cX9_fee 42 = .ok (.goto 8, 3) := by decide +kernel
theorem dX9_fee_45 : decode cX9_fee 45 = .ok (.aload_n 0, 1) := by decide +kernel
theorem dX9_fee_46 : decode cX9_fee 46 = .ok (.iload_n 1, 1) := by decide +kernel
theorem dX9_fee_47 : decode cX9_fee 47 = .ok (.invokevirtual 150, 3) := by decide +kernel
theorem dX9_fee_50 : decode cX9_fee 50 = .ok (.ireturn, 1) := by decide +kernel
theorem dX9_fine_0 : decode cX9_fine 0 = .ok (.aload_n 0, 1) := by decide +kernel
theorem dX9_fine_1 : decode cX9_fine 1 = .ok (.iload_n 1, 1) := by decide +kernel
theorem dX9_fine_2 : decode cX9_fine 2 = .ok (.invokevirtual 130, 3) := by decide +kernel
theorem dX9_fine_5 : decode cX9_fine 5 = .ok (.ifCond .ne 6, 3) := by decide +kernel
theorem dX9_fine_8 : decode cX9_fine 8 = .ok (.ldc 118, 2) := by decide +kernel
theorem dX9_fine_10 : decode cX9_fine 10 = .ok (.ireturn, 1) := by decide +kernel
theorem dX9_fine_11 : decode cX9_fine 11 = .ok (.aload_n 0, 1) := by decide +kernel
theorem dX9_fine_12 : decode cX9_fine 12 = .ok (.iconst 2, 1) := by decide +kernel
theorem dX9_fine_13 : decode cX9_fine 13 = .ok (.invokevirtual 147, 3) := by decide +kernel
theorem dX9_fine_16 : decode cX9_fine 16 = .ok (.istore_n 2, 1) := by decide +kernel
theorem dX9_fine_17 : decode cX9_fine 17 = .ok (.aload_n 0, 1) := by decide +kernel
theorem dX9_fine_18 : decode cX9_fine 18 = .ok (.getfield 48, 3) := by decide +kernel
theorem dX9_fine_21 : decode cX9_fine 21 = .ok (.iconst 0, 1) := by decide +kernel
theorem dX9_fine_22 : decode cX9_fine 22 = .ok (.aload_n 0, 1) := by decide +kernel
theorem dX9_fine_23 : decode cX9_fine 23 = .ok (.iload_n 1, 1) := by decide +kernel
theorem dX9_fine_24 : decode cX9_fine 24 = .ok (.iconst 2, 1) := by decide +kernel
theorem dX9_fine_25 : decode cX9_fine 25 = .ok (.invokevirtual 87, 3) := by decide +kernel
theorem dX9_fine_28 : decode cX9_fine 28 = .ok (.iastore, 1) := by decide +kernel
theorem dX9_fine_29 : decode cX9_fine 29 = .ok (.aload_n 0, 1) := by decide +kernel
theorem dX9_fine_30 : decode cX9_fine 30 = .ok (.getfield 48, 3) := by decide +kernel
theorem dX9_fine_33 : decode cX9_fine 33 = .ok (.iconst 1, 1) := by decide +kernel
theorem dX9_fine_34 : decode cX9_fine 34 = .ok (.aload_n 0, 1) := by decide +kernel
theorem dX9_fine_35 : decode cX9_fine 35 = .ok (.iload_n 1, 1) := by decide +kernel
theorem dX9_fine_36 : decode cX9_fine 36 = .ok (.iconst 3, 1) := by decide +kernel
theorem dX9_fine_37 : decode cX9_fine 37 = .ok (.invokevirtual 87, 3) := by decide +kernel
theorem dX9_fine_40 : decode cX9_fine 40 = .ok (.iastore, 1) := by decide +kernel
theorem dX9_fine_41 : decode cX9_fine 41 = .ok (.iload_n 2, 1) := by decide +kernel
theorem dX9_fine_42 : decode cX9_fine 42 = .ok (.ifCond .ge 12, 3) := by decide +kernel
theorem dX9_fine_45 : decode cX9_fine 45 = .ok (.aload_n 0, 1) := by decide +kernel
theorem dX9_fine_46 : decode cX9_fine 46 = .ok (.iload_n 1, 1) := by decide +kernel
theorem dX9_fine_47 : decode cX9_fine 47 = .ok (.iconst 3, 1) := by decide +kernel
theorem dX9_fine_48 : decode cX9_fine 48 = .ok (.invokevirtual 87, 3) := by decide +kernel
theorem dX9_fine_51 : decode cX9_fine 51 = .ok (.goto 8, 3) := by decide +kernel
theorem dX9_fine_54 : decode cX9_fine 54 = .ok (.aload_n 0, 1) := by decide +kernel
theorem dX9_fine_55 : decode cX9_fine 55 = .ok (.iload_n 2, 1) := by decide +kernel
theorem dX9_fine_56 : decode cX9_fine 56 = .ok (.invokevirtual 150, 3) := by decide +kernel
theorem dX9_fine_59 : decode cX9_fine 59 = .ok (.ireturn, 1) := by decide +kernel
theorem dX9_feed_0 : decode cX9_feed 0 = .ok (.aload_n 0, 1) := by decide +kernel
theorem dX9_feed_1 : decode cX9_feed 1 = .ok (.getfield 221, 3) := by decide +kernel
theorem dX9_feed_4 : decode cX9_feed 4 = .ok (.bipush 12, 2) := by decide +kernel
theorem dX9_feed_6 : decode cX9_feed 6 = .ok (.iadd, 1) := by decide +kernel
theorem dX9_feed_7 : decode cX9_feed 7 = .ok (.bipush 96, 2) := by decide +kernel
theorem dX9_feed_9 : decode cX9_feed 9 = .ok (.if_icmp .le 6, 3) := by decide +kernel
theorem dX9_feed_12 : decode cX9_feed 12 = .ok (.ldc 126, 2) := by decide +kernel
theorem dX9_feed_14 : decode cX9_feed 14 = .ok (.ireturn, 1) := by decide +kernel
theorem dX9_feed_15 : decode cX9_feed 15 = .ok (.iconst 0, 1) := by decide +kernel
theorem dX9_feed_16 : decode cX9_feed 16 = .ok (.istore 4, 2) := by decide +kernel
theorem dX9_feed_18 : decode cX9_feed 18 = .ok (.iload 4, 2) := by decide +kernel
theorem dX9_feed_20 : decode cX9_feed 20 = .ok (.bipush 12, 2) := by decide +kernel
theorem dX9_feed_22 : decode cX9_feed 22 = .ok (.if_icmp .ge 62, 3) := by decide +kernel
theorem dX9_feed_25 : decode cX9_feed 25 = .ok (.iload 4, 2) := by decide +kernel
theorem dX9_feed_27 : decode cX9_feed 27 = .ok (.iconst 4, 1) := by decide +kernel
theorem dX9_feed_28 : decode cX9_feed 28 = .ok (.if_icmp .ge 7, 3) := by decide +kernel
theorem dX9_feed_31 : decode cX9_feed 31 = .ok (.iload_n 1, 1) := by decide +kernel
theorem dX9_feed_32 : decode cX9_feed 32 = .ok (.goto 15, 3) := by decide +kernel
theorem dX9_feed_35 : decode cX9_feed 35 = .ok (.iload 4, 2) := by decide +kernel
theorem dX9_feed_37 : decode cX9_feed 37 = .ok (.bipush 8, 2) := by decide +kernel
theorem dX9_feed_39 : decode cX9_feed 39 = .ok (.if_icmp .ge 7, 3) := by decide +kernel
theorem dX9_feed_42 : decode cX9_feed 42 = .ok (.iload_n 2, 1) := by decide +kernel
theorem dX9_feed_43 : decode cX9_feed 43 = .ok (.goto 4, 3) := by decide +kernel
theorem dX9_feed_46 : decode cX9_feed 46 = .ok (.iload_n 3, 1) := by decide +kernel
theorem dX9_feed_47 : decode cX9_feed 47 = .ok (.istore 5, 2) := by decide +kernel
theorem dX9_feed_49 : decode cX9_feed 49 = .ok (.aload_n 0, 1) := by decide +kernel
theorem dX9_feed_50 : decode cX9_feed 50 = .ok (.getfield 25, 3) := by decide +kernel
theorem dX9_feed_53 : decode cX9_feed 53 = .ok (.aload_n 0, 1) := by decide +kernel
theorem dX9_feed_54 : decode cX9_feed 54 = .ok (.getfield 221, 3) := by decide +kernel
theorem dX9_feed_57 : decode cX9_feed 57 = .ok (.iload 4, 2) := by decide +kernel
theorem dX9_feed_59 : decode cX9_feed 59 = .ok (.iadd, 1) := by decide +kernel
theorem dX9_feed_60 : decode cX9_feed 60 = .ok (.iload 5, 2) := by decide +kernel
theorem dX9_feed_62 : decode cX9_feed 62 = .ok (.bipush 24, 2) := by decide +kernel
theorem dX9_feed_64 : decode cX9_feed 64 = .ok (.bipush 8, 2) := by decide +kernel
theorem dX9_feed_66 : decode cX9_feed 66 = .ok (.iload 4, 2) := by decide +kernel
theorem dX9_feed_68 : decode cX9_feed 68 = .ok (.iconst 4, 1) := by decide +kernel
theorem dX9_feed_69 : decode cX9_feed 69 = .ok (.irem, 1) := by decide +kernel
theorem dX9_feed_70 : decode cX9_feed 70 = .ok (.imul, 1) := by decide +kernel
theorem dX9_feed_71 : decode cX9_feed 71 = .ok (.isub, 1) := by decide +kernel
theorem dX9_feed_72 : decode cX9_feed 72 = .ok (.ishr, 1) := by decide +kernel
theorem dX9_feed_73 : decode cX9_feed 73 = .ok (.sipush 255, 3) := by decide +kernel
theorem dX9_feed_76 : decode cX9_feed 76 = .ok (.iand, 1) := by decide +kernel
theorem dX9_feed_77 : decode cX9_feed 77 = .ok (.iastore, 1) := by decide +kernel
theorem dX9_feed_78 : decode cX9_feed 78 = .ok (.iinc 4 1, 3) := by decide +kernel
theorem dX9_feed_81 : decode cX9_feed 81 = .ok (.goto (-63), 3) := by decide +kernel
theorem dX9_feed_84 : decode cX9_feed 84 = .ok (.aload_n 0, 1) := by decide +kernel
theorem dX9_feed_85 : decode cX9_feed 85 = .ok (.dup, 1) := by decide +kernel
theorem dX9_feed_86 : decode cX9_feed 86 = .ok (.getfield 221, 3) := by decide +kernel
theorem dX9_feed_89 : decode cX9_feed 89 = .ok (.bipush 12, 2) := by decide +kernel
theorem dX9_feed_91 : decode cX9_feed 91 = .ok (.iadd, 1) := by decide +kernel
theorem dX9_feed_92 : decode cX9_feed 92 = .ok (.putfield 221, 3) := by decide +kernel
theorem dX9_feed_95 : decode cX9_feed 95 = .ok (.aload_n 0, 1) := by decide +kernel
theorem dX9_feed_96 : decode cX9_feed 96 = .ok (.getfield 221, 3) := by decide +kernel
theorem dX9_feed_99 : decode cX9_feed 99 = .ok (.ireturn, 1) := by decide +kernel
theorem dX9_trim_0 : decode cX9_trim 0 = .ok (.iload_n 1, 1) := by decide +kernel
theorem dX9_trim_1 : decode cX9_trim 1 = .ok (.iconst 0, 1) := by decide +kernel
theorem dX9_trim_2 : decode cX9_trim 2 = .ok (.aload_n 0, 1) := by decide +kernel
theorem dX9_trim_3 : decode cX9_trim 3 = .ok (.getfield 221, 3) := by decide +kernel
theorem dX9_trim_6 : decode cX9_trim 6 = .ok (.invokestatic 79, 3) := by decide +kernel
theorem dX9_trim_9 : decode cX9_trim 9 = .ok (.ifCond .ne 6, 3) := by decide +kernel
theorem dX9_trim_12 : decode cX9_trim 12 = .ok (.ldc 118, 2) := by decide +kernel
theorem dX9_trim_14 : decode cX9_trim 14 = .ok (.ireturn, 1) := by decide +kernel
theorem dX9_trim_15 : decode cX9_trim 15 = .ok (.aload_n 0, 1) := by decide +kernel
theorem dX9_trim_16 : decode cX9_trim 16 = .ok (.iload_n 1, 1) := by decide +kernel
theorem dX9_trim_17 : decode cX9_trim 17 = .ok (.putfield 221, 3) := by decide +kernel
theorem dX9_trim_20 : decode cX9_trim 20 = .ok (.iload_n 1, 1) := by decide +kernel
theorem dX9_trim_21 : decode cX9_trim 21 = .ok (.ireturn, 1) := by decide +kernel
theorem dX9_isLetter_0 : decode cX9_isLetter 0 = .ok (.iload_n 1, 1) := by decide +kernel
theorem dX9_isLetter_1 : decode cX9_isLetter 1 = .ok (.aload_n 0, 1) := by decide +kernel
theorem dX9_isLetter_2 : decode cX9_isLetter 2 = .ok (.getfield 221, 3) := by decide +kernel
theorem dX9_isLetter_5 : decode cX9_isLetter 5 = .ok (.if_icmp .ge 29, 3) := by decide +kernel
theorem dX9_isLetter_8 : decode cX9_isLetter 8 = .ok (.aload_n 0, 1) := by decide +kernel
theorem dX9_isLetter_9 : decode cX9_isLetter 9 = .ok (.getfield 25, 3) := by decide +kernel
theorem dX9_isLetter_12 : decode cX9_isLetter 12 = .ok (.iload_n 1, 1) := by decide +kernel
theorem dX9_isLetter_13 : decode cX9_isLetter 13 = .ok (.iaload, 1) := by decide +kernel
theorem dX9_isLetter_14 : decode cX9_isLetter 14 = .ok (.bipush 97, 2) := by decide +kernel
theorem dX9_isLetter_16 : decode cX9_isLetter 16 = .ok (.if_icmp .lt 18, 3) := by decide +kernel
theorem dX9_isLetter_19 : decode cX9_isLetter 19 = .ok (.aload_n 0, 1) := by decide +kernel
theorem dX9_isLetter_20 : decode cX9_isLetter 20 = .ok (.getfield 25, 3) := by decide +kernel
theorem dX9_isLetter_23 : decode cX9_isLetter 23 = .ok (.iload_n 1, 1) := by decide +kernel
theorem dX9_isLetter_24 : decode cX9_isLetter 24 = .ok (.iaload, 1) := by decide +kernel
theorem dX9_isLetter_25 : decode cX9_isLetter 25 = .ok (.bipush 122, 2) := by decide +kernel
theorem dX9_isLetter_27 : decode cX9_isLetter 27 = .ok (.if_icmp .gt 7, 3) := by decide +kernel
theorem dX9_isLetter_30 : decode cX9_isLetter 30 = .ok (.iconst 1, 1) := by decide +kernel
theorem dX9_isLetter_31 : decode cX9_isLetter 31 = .ok (.goto 4, 3) := by decide +kernel
theorem dX9_isLetter_34 : decode cX9_isLetter 34 = .ok (.iconst 0, 1) := by decide +kernel
theorem dX9_isLetter_35 : decode cX9_isLetter 35 = .ok (.ireturn, 1) := by decide +kernel
theorem dX9_isFigure_0 : decode cX9_isFigure 0 = .ok (.iload_n 1, 1) := by decide +kernel
theorem dX9_isFigure_1 : decode cX9_isFigure 1 = .ok (.aload_n 0, 1) := by decide +kernel
theorem dX9_isFigure_2 : decode cX9_isFigure 2 = .ok (.getfield 221, 3) := by decide +kernel
theorem dX9_isFigure_5 : decode cX9_isFigure 5 = .ok (.if_icmp .ge 29, 3) := by decide +kernel
theorem dX9_isFigure_8 : decode cX9_isFigure 8 = .ok (.aload_n 0, 1) := by decide +kernel
theorem dX9_isFigure_9 : decode cX9_isFigure 9 = .ok (.getfield 25, 3) := by decide +kernel
theorem dX9_isFigure_12 : decode cX9_isFigure 12 = .ok (.iload_n 1, 1) := by decide +kernel
theorem dX9_isFigure_13 : decode cX9_isFigure 13 = .ok (.iaload, 1) := by decide +kernel
theorem dX9_isFigure_14 : decode cX9_isFigure 14 = .ok (.bipush 48, 2) := by decide +kernel
theorem dX9_isFigure_16 : decode cX9_isFigure 16 = .ok (.if_icmp .lt 18, 3) := by decide +kernel
theorem dX9_isFigure_19 : decode cX9_isFigure 19 = .ok (.aload_n 0, 1) := by decide +kernel
theorem dX9_isFigure_20 : decode cX9_isFigure 20 = .ok (.getfield 25, 3) := by decide +kernel
theorem dX9_isFigure_23 : decode cX9_isFigure 23 = .ok (.iload_n 1, 1) := by decide +kernel
theorem dX9_isFigure_24 : decode cX9_isFigure 24 = .ok (.iaload, 1) := by decide +kernel
theorem dX9_isFigure_25 : decode cX9_isFigure 25 = .ok (.bipush 57, 2) := by decide +kernel
theorem dX9_isFigure_27 : decode cX9_isFigure 27 = .ok (.if_icmp .gt 7, 3) := by decide +kernel
theorem dX9_isFigure_30 : decode cX9_isFigure 30 = .ok (.iconst 1, 1) := by decide +kernel
theorem dX9_isFigure_31 : decode cX9_isFigure 31 = .ok (.goto 4, 3) := by decide +kernel
theorem dX9_isFigure_34 : decode cX9_isFigure 34 = .ok (.iconst 0, 1) := by decide +kernel
theorem dX9_isFigure_35 : decode cX9_isFigure 35 = .ok (.ireturn, 1) := by decide +kernel
theorem dX9_go_0 : decode cX9_go 0 = .ok (.aload_n 0, 1) := by decide +kernel
theorem dX9_go_1 : decode cX9_go 1 = .ok (.getfield 224, 3) := by decide +kernel
theorem dX9_go_4 : decode cX9_go 4 = .ok (.aload_n 0, 1) := by decide +kernel
theorem dX9_go_5 : decode cX9_go 5 = .ok (.getfield 221, 3) := by decide +kernel
theorem dX9_go_8 : decode cX9_go 8 = .ok (.if_icmp .ge 30, 3) := by decide +kernel
theorem dX9_go_11 : decode cX9_go 11 = .ok (.aload_n 0, 1) := by decide +kernel
theorem dX9_go_12 : decode cX9_go 12 = .ok (.getfield 25, 3) := by decide +kernel
theorem dX9_go_15 : decode cX9_go 15 = .ok (.aload_n 0, 1) := by decide +kernel
theorem dX9_go_16 : decode cX9_go 16 = .ok (.getfield 224, 3) := by decide +kernel
theorem dX9_go_19 : decode cX9_go 19 = .ok (.iaload, 1) := by decide +kernel
theorem dX9_go_20 : decode cX9_go 20 = .ok (.bipush 32, 2) := by decide +kernel
theorem dX9_go_22 : decode cX9_go 22 = .ok (.if_icmp .ne 16, 3) := by decide +kernel
theorem dX9_go_25 : decode cX9_go 25 = .ok (.aload_n 0, 1) := by decide +kernel
theorem dX9_go_26 : decode cX9_go 26 = .ok (.dup, 1) := by decide +kernel
theorem dX9_go_27 : decode cX9_go 27 = .ok (.getfield 224, 3) := by decide +kernel
theorem dX9_go_30 : decode cX9_go 30 = .ok (.iconst 1, 1) := by decide +kernel
theorem dX9_go_31 : decode cX9_go 31 = .ok (.iadd, 1) := by decide +kernel
theorem dX9_go_32 : decode cX9_go 32 = .ok (.putfield 224, 3) := by decide +kernel
theorem dX9_go_35 : decode cX9_go 35 = .ok (.goto (-35), 3) := by decide +kernel
theorem dX9_go_38 : decode cX9_go 38 = .ok (.aload_n 0, 1) := by decide +kernel
theorem dX9_go_39 : decode cX9_go 39 = .ok (.aload_n 0, 1) := by decide +kernel
theorem dX9_go_40 : decode cX9_go 40 = .ok (.getfield 224, 3) := by decide +kernel
theorem dX9_go_43 : decode cX9_go 43 = .ok (.putfield 227, 3) := by decide +kernel
theorem dX9_go_46 : decode cX9_go 46 = .ok (.aload_n 0, 1) := by decide +kernel
theorem dX9_go_47 : decode cX9_go 47 = .ok (.getfield 227, 3) := by decide +kernel
theorem dX9_go_50 : decode cX9_go 50 = .ok (.aload_n 0, 1) := by decide +kernel
theorem dX9_go_51 : decode cX9_go 51 = .ok (.getfield 230, 3) := by decide +kernel
theorem dX9_go_54 : decode cX9_go 54 = .ok (.if_icmp .ne 7, 3) := by decide +kernel
theorem dX9_go_57 : decode cX9_go 57 = .ok (.iconst 1, 1) := by decide +kernel
theorem dX9_go_58 : decode cX9_go 58 = .ok (.goto 4, 3) := by decide +kernel
theorem dX9_go_61 : decode cX9_go 61 = .ok (.iconst 0, 1) := by decide +kernel
theorem dX9_go_62 : decode cX9_go 62 = .ok (.istore_n 1, 1) := by decide +kernel
theorem dX9_go_63 : decode cX9_go 63 = .ok (.aload_n 0, 1) := by decide +kernel
theorem dX9_go_64 : decode cX9_go 64 = .ok (.getfield 227, 3) := by decide +kernel
theorem dX9_go_67 : decode cX9_go 67 = .ok (.aload_n 0, 1) := by decide +kernel
theorem dX9_go_68 : decode cX9_go 68 = .ok (.getfield 221, 3) := by decide +kernel
theorem dX9_go_71 : decode cX9_go 71 = .ok (.if_icmp .ne 11, 3) := by decide +kernel
theorem dX9_go_74 : decode cX9_go 74 = .ok (.aload_n 0, 1) := by decide +kernel
theorem dX9_go_75 : decode cX9_go 75 = .ok (.iconst 0, 1) := by decide +kernel
theorem dX9_go_76 : decode cX9_go 76 = .ok (.putfield 233, 3) := by decide +kernel
theorem dX9_go_79 : decode cX9_go 79 = .ok (.goto 224, 3) := by decide +kernel
theorem dX9_go_82 : decode cX9_go 82 = .ok (.aload_n 0, 1) := by decide +kernel
theorem dX9_go_83 : decode cX9_go 83 = .ok (.aload_n 0, 1) := by decide +kernel
theorem dX9_go_84 : decode cX9_go 84 = .ok (.getfield 227, 3) := by decide +kernel
theorem dX9_go_87 : decode cX9_go 87 = .ok (.invokevirtual 236, 3) := by decide +kernel
theorem dX9_go_90 : decode cX9_go 90 = .ok (.ifCond .eq 64, 3) := by decide +kernel
theorem dX9_go_93 : decode cX9_go 93 = .ok (.aload_n 0, 1) := by decide +kernel
theorem dX9_go_94 : decode cX9_go 94 = .ok (.aload_n 0, 1) := by decide +kernel
theorem dX9_go_95 : decode cX9_go 95 = .ok (.getfield 224, 3) := by decide +kernel
theorem dX9_go_98 : decode cX9_go 98 = .ok (.invokevirtual 236, 3) := by decide +kernel
theorem dX9_go_101 : decode cX9_go 101 = .ok (.ifCond .eq 16, 3) := by decide +kernel
theorem dX9_go_104 : decode cX9_go 104 = .ok (.aload_n 0, 1) := by decide +kernel
theorem dX9_go_105 : decode cX9_go 105 = .ok (.dup, 1) := by decide +kernel
theorem dX9_go_106 : decode cX9_go 106 = .ok (.getfield 224, 3) := by decide +kernel
theorem dX9_go_109 : decode cX9_go 109 = .ok (.iconst 1, 1) := by decide +kernel
theorem dX9_go_110 : decode cX9_go 110 = .ok (.iadd, 1) := by decide +kernel
theorem dX9_go_111 : decode cX9_go 111 = .ok (.putfield 224, 3) := by decide +kernel
theorem dX9_go_114 : decode cX9_go 114 = .ok (.goto (-21), 3) := by decide +kernel
theorem dX9_go_117 : decode cX9_go 117 = .ok (.aload_n 0, 1) := by decide +kernel
theorem dX9_go_118 : decode cX9_go 118 = .ok (.iload_n 1, 1) := by decide +kernel
theorem dX9_go_119 : decode cX9_go 119 = .ok (.ifCond .eq 7, 3) := by decide +kernel
theorem dX9_go_122 : decode cX9_go 122 = .ok (.iconst 4, 1) := by decide +kernel
theorem dX9_go_123 : decode cX9_go 123 = .ok (.goto 4, 3) := by decide +kernel
theorem dX9_go_126 : decode cX9_go 126 = .ok (.iconst 1, 1) := by decide +kernel
theorem dX9_go_127 : decode cX9_go 127 = .ok (.putfield 233, 3) := by decide +kernel
theorem dX9_go_130 : decode cX9_go 130 = .ok (.aload_n 0, 1) := by decide +kernel
theorem dX9_go_131 : decode cX9_go 131 = .ok (.aload_n 0, 1) := by decide +kernel
theorem dX9_go_132 : decode cX9_go 132 = .ok (.getfield 25, 3) := by decide +kernel
theorem dX9_go_135 : decode cX9_go 135 = .ok (.aload_n 0, 1) := by decide +kernel
theorem dX9_go_136 : decode cX9_go 136 = .ok (.getfield 227, 3) := by decide +kernel
theorem dX9_go_139 : decode cX9_go 139 = .ok (.iaload, 1) := by decide +kernel
theorem dX9_go_140 : decode cX9_go 140 = .ok (.putfield 239, 3) := by decide +kernel
theorem dX9_go_143 : decode cX9_go 143 = .ok (.aload_n 0, 1) := by decide +kernel
theorem dX9_go_144 : decode cX9_go 144 = .ok (.aload_n 0, 1) := by decide +kernel
theorem dX9_go_145 : decode cX9_go 145 = .ok (.getfield 224, 3) := by decide +kernel
theorem dX9_go_148 : decode cX9_go 148 = .ok (.putfield 230, 3) := by decide +kernel
theorem dX9_go_151 : decode cX9_go 151 = .ok (.goto 152, 3) := by decide +kernel
theorem dX9_go_154 : decode cX9_go 154 = .ok (.aload_n 0, 1) := by decide +kernel
theorem dX9_go_155 : decode cX9_go 155 = .ok (.aload_n 0, 1) := by decide +kernel
theorem dX9_go_156 : decode cX9_go 156 = .ok (.getfield 227, 3) := by decide +kernel
theorem dX9_go_159 : decode cX9_go 159 = .ok (.invokevirtual 242, 3) := by decide +kernel
theorem dX9_go_162 : decode cX9_go 162 = .ok (.ifCond .eq 113, 3) := by decide +kernel
theorem dX9_go_165 : decode cX9_go 165 = .ok (.aload_n 0, 1) := by decide +kernel
theorem dX9_go_166 : decode cX9_go 166 = .ok (.iconst 0, 1) := by decide +kernel
theorem dX9_go_167 : decode cX9_go 167 = .ok (.putfield 239, 3) := by decide +kernel
theorem dX9_go_170 : decode cX9_go 170 = .ok (.aload_n 0, 1) := by decide +kernel
theorem dX9_go_171 : decode cX9_go 171 = .ok (.aload_n 0, 1) := by decide +kernel
theorem dX9_go_172 : decode cX9_go 172 = .ok (.getfield 224, 3) := by decide +kernel
theorem dX9_go_175 : decode cX9_go 175 = .ok (.invokevirtual 242, 3) := by decide +kernel
theorem dX9_go_178 : decode cX9_go 178 = .ok (.ifCond .eq 60, 3) := by decide +kernel
theorem dX9_go_181 : decode cX9_go 181 = .ok (.aload_n 0, 1) := by decide +kernel
theorem dX9_go_182 : decode cX9_go 182 = .ok (.aload_n 0, 1) := by decide +kernel
theorem dX9_go_183 : decode cX9_go 183 = .ok (.getfield 224, 3) := by decide +kernel
theorem dX9_go_186 : decode cX9_go 186 = .ok (.aload_n 0, 1) := by decide +kernel
theorem dX9_go_187 : decode cX9_go 187 = .ok (.getfield 227, 3) := by decide +kernel
theorem dX9_go_190 : decode cX9_go 190 = .ok (.isub, 1) := by decide +kernel
theorem dX9_go_191 : decode cX9_go 191 = .ok (.iconst 4, 1) := by decide +kernel
theorem dX9_go_192 : decode cX9_go 192 = .ok (.if_icmp .ge 26, 3) := by decide +kernel
theorem dX9_go_195 : decode cX9_go 195 = .ok (.bipush 10, 2) := by decide +kernel
theorem dX9_go_197 : decode cX9_go 197 = .ok (.aload_n 0, 1) := by decide +kernel
theorem dX9_go_198 : decode cX9_go 198 = .ok (.getfield 239, 3) := by decide +kernel
theorem dX9_go_201 : decode cX9_go 201 = .ok (.imul, 1) := by decide +kernel
theorem dX9_go_202 : decode cX9_go 202 = .ok (.aload_n 0, 1) := by decide +kernel
theorem dX9_go_203 : decode cX9_go 203 = .ok (.getfield 25, 3) := by decide +kernel
theorem dX9_go_206 : decode cX9_go 206 = .ok (.aload_n 0, 1) := by decide +kernel
theorem dX9_go_207 : decode cX9_go 207 = .ok (.getfield 224, 3) := by decide +kernel
theorem dX9_go_210 : decode cX9_go 210 = .ok (.iaload, 1) := by decide +kernel
theorem dX9_go_211 : decode cX9_go 211 = .ok (.iadd, 1) := by decide +kernel
theorem dX9_go_212 : decode cX9_go 212 = .ok (.bipush 48, 2) := by decide +kernel
theorem dX9_go_214 : decode cX9_go 214 = .ok (.isub, 1) := by decide +kernel
theorem dX9_go_215 : decode cX9_go 215 = .ok (.goto 7, 3) := by decide +kernel
theorem dX9_go_218 : decode cX9_go 218 = .ok (.aload_n 0, 1) := by decide +kernel
theorem dX9_go_219 : decode cX9_go 219 = .ok (.getfield 239, 3) := by decide +kernel
theorem dX9_go_222 : decode cX9_go 222 = .ok (.putfield 239, 3) := by decide +kernel
theorem dX9_go_225 : decode cX9_go 225 = .ok (.aload_n 0, 1) := by decide +kernel
theorem dX9_go_226 : decode cX9_go 226 = .ok (.dup, 1) := by decide +kernel
theorem dX9_go_227 : decode cX9_go 227 = .ok (.getfield 224, 3) := by decide +kernel
theorem dX9_go_230 : decode cX9_go 230 = .ok (.iconst 1, 1) := by decide +kernel
theorem dX9_go_231 : decode cX9_go 231 = .ok (.iadd, 1) := by decide +kernel
theorem dX9_go_232 : decode cX9_go 232 = .ok (.putfield 224, 3) := by decide +kernel
theorem dX9_go_235 : decode cX9_go 235 = .ok (.goto (-65), 3) := by decide +kernel
theorem dX9_go_238 : decode cX9_go 238 = .ok (.aload_n 0, 1) := by decide +kernel
theorem dX9_go_239 : decode cX9_go 239 = .ok (.iload_n 1, 1) := by decide +kernel
theorem dX9_go_240 : decode cX9_go 240 = .ok (.ifCond .ne 16, 3) := by decide +kernel
theorem dX9_go_243 : decode cX9_go 243 = .ok (.aload_n 0, 1) := by decide +kernel
theorem dX9_go_244 : decode cX9_go 244 = .ok (.getfield 224, 3) := by decide +kernel
theorem dX9_go_247 : decode cX9_go 247 = .ok (.aload_n 0, 1) := by decide +kernel
theorem dX9_go_248 : decode cX9_go 248 = .ok (.getfield 227, 3) := by decide +kernel
theorem dX9_go_251 : decode cX9_go 251 = .ok (.isub, 1) := by decide +kernel
theorem dX9_go_252 : decode cX9_go 252 = .ok (.iconst 4, 1) := by decide +kernel
theorem dX9_go_253 : decode cX9_go 253 = .ok (.if_icmp .le 7, 3) := by decide +kernel
theorem dX9_go_256 : decode cX9_go 256 = .ok (.iconst 4, 1) := by decide +kernel
theorem dX9_go_257 : decode cX9_go 257 = .ok (.goto 4, 3) := by decide +kernel
theorem dX9_go_260 : decode cX9_go 260 = .ok (.iconst 2, 1) := by decide +kernel
theorem dX9_go_261 : decode cX9_go 261 = .ok (.putfield 233, 3) := by decide +kernel
theorem dX9_go_264 : decode cX9_go 264 = .ok (.aload_n 0, 1) := by decide +kernel
theorem dX9_go_265 : decode cX9_go 265 = .ok (.aload_n 0, 1) := by decide +kernel
theorem dX9_go_266 : decode cX9_go 266 = .ok (.getfield 224, 3) := by decide +kernel
theorem dX9_go_269 : decode cX9_go 269 = .ok (.putfield 230, 3) := by decide +kernel
theorem dX9_go_272 : decode cX9_go 272 = .ok (.goto 31, 3) := by decide +kernel
theorem dX9_go_275 : decode cX9_go 275 = .ok (.aload_n 0, 1) := by decide +kernel
theorem dX9_go_276 : decode cX9_go 276 = .ok (.iconst 3, 1) := by decide +kernel
theorem dX9_go_277 : decode cX9_go 277 = .ok (.putfield 233, 3) := by decide +kernel
theorem dX9_go_280 : decode cX9_go 280 = .ok (.aload_n 0, 1) := by decide +kernel
theorem dX9_go_281 : decode cX9_go 281 = .ok (.aload_n 0, 1) := by decide +kernel
theorem dX9_go_282 : decode cX9_go 282 = .ok (.getfield 25, 3) := by decide +kernel
theorem dX9_go_285 : decode cX9_go 285 = .ok (.aload_n 0, 1) := by decide +kernel
theorem dX9_go_286 : decode cX9_go 286 = .ok (.getfield 227, 3) := by decide +kernel
theorem dX9_go_289 : decode cX9_go 289 = .ok (.iaload, 1) := by decide +kernel
theorem dX9_go_290 : decode cX9_go 290 = .ok (.putfield 239, 3) := by decide +kernel
theorem dX9_go_293 : decode cX9_go 293 = .ok (.aload_n 0, 1) := by decide +kernel
theorem dX9_go_294 : decode cX9_go 294 = .ok (.dup, 1) := by decide +kernel
theorem dX9_go_295 : decode cX9_go 295 = .ok (.getfield 224, 3) := by decide +kernel
theorem dX9_go_298 : decode cX9_go 298 = .ok (.iconst 1, 1) := by decide +kernel
theorem dX9_go_299 : decode cX9_go 299 = .ok (.iadd, 1) := by decide +kernel
theorem dX9_go_300 : decode cX9_go 300 = .ok (.putfield 224, 3) := by decide +kernel
theorem dX9_go_303 : decode cX9_go 303 = .ok (.return_, 1) := by decide +kernel
theorem dX9_takesKey_0 : decode cX9_takesKey 0 = .ok (.aload_n 0, 1) := by decide +kernel
theorem dX9_takesKey_1 : decode cX9_takesKey 1 = .ok (.getfield 233, 3) := by decide +kernel
theorem dX9_takesKey_4 : decode cX9_takesKey 4 = .ok (.iconst 1, 1) := by decide +kernel
theorem dX9_takesKey_5 : decode cX9_takesKey 5 = .ok (.if_icmp .eq 5, 3) := by decide +kernel
theorem dX9_takesKey_8 : decode cX9_takesKey 8 = .ok (.iconst 0, 1) := by decide +kernel
theorem dX9_takesKey_9 : decode cX9_takesKey 9 = .ok (.ireturn, 1) := by decide +kernel
theorem dX9_takesKey_10 : decode cX9_takesKey 10 = .ok (.iconst 0, 1) := by decide +kernel
theorem dX9_takesKey_11 : decode cX9_takesKey 11 = .ok (.istore_n 1, 1) := by decide +kernel
theorem dX9_takesKey_12 : decode cX9_takesKey 12 = .ok (.iload_n 1, 1) := by decide +kernel
theorem dX9_takesKey_13 : decode cX9_takesKey 13 = .ok (.iconst 3, 1) := by decide +kernel
theorem dX9_takesKey_14 : decode cX9_takesKey 14 = .ok (.if_icmp .ge 113, 3) := by decide +kernel
theorem dX9_takesKey_17 : decode cX9_takesKey 17 = .ok (.aload_n 0, 1) := by decide +kernel
theorem dX9_takesKey_18 : decode cX9_takesKey 18 = .ok (.getfield 32, 3) := by decide +kernel
theorem dX9_takesKey_21 : decode cX9_takesKey 21 = .ok (.iload_n 1, 1) := by decide +kernel
theorem dX9_takesKey_22 : decode cX9_takesKey 22 = .ok (.iconst 1, 1) := by decide +kernel
theorem dX9_takesKey_23 : decode cX9_takesKey 23 = .ok (.iadd, 1) := by decide +kernel
theorem dX9_takesKey_24 : decode cX9_takesKey 24 = .ok (.iaload, 1) := by decide +kernel
theorem dX9_takesKey_25 : decode cX9_takesKey 25 = .ok (.aload_n 0, 1) := by decide +kernel
theorem dX9_takesKey_26 : decode cX9_takesKey 26 = .ok (.getfield 32, 3) := by decide +kernel
theorem dX9_takesKey_29 : decode cX9_takesKey 29 = .ok (.iload_n 1, 1) := by decide +kernel
theorem dX9_takesKey_30 : decode cX9_takesKey 30 = .ok (.iaload, 1) := by decide +kernel
theorem dX9_takesKey_31 : decode cX9_takesKey 31 = .ok (.isub, 1) := by decide +kernel
theorem dX9_takesKey_32 : decode cX9_takesKey 32 = .ok (.istore_n 2, 1) := by decide +kernel
theorem dX9_takesKey_33 : decode cX9_takesKey 33 = .ok (.iload_n 2, 1) := by decide +kernel
theorem dX9_takesKey_34 : decode cX9_takesKey 34 = .ok (.aload_n 0, 1) := by decide +kernel
theorem dX9_takesKey_35 : decode cX9_takesKey 35 = .ok (.getfield 224, 3) := by decide +kernel
theorem dX9_takesKey_38 : decode cX9_takesKey 38 = .ok (.aload_n 0, 1) := by decide +kernel
theorem dX9_takesKey_39 : decode cX9_takesKey 39 = .ok (.getfield 227, 3) := by decide +kernel
theorem dX9_takesKey_42 : decode cX9_takesKey 42 = .ok (.isub, 1) := by decide +kernel
theorem dX9_takesKey_43 : decode cX9_takesKey 43 = .ok (.if_icmp .ne 7, 3) := by decide +kernel
theorem dX9_takesKey_46 : decode cX9_takesKey 46 = .ok (.iconst 1, 1) := by decide +kernel
theorem dX9_takesKey_47 : decode cX9_takesKey 47 = .ok (.goto 4, 3) := by decide +kernel
theorem dX9_takesKey_50 : decode cX9_takesKey 50 = .ok (.iconst 0, 1) := by decide +kernel
theorem dX9_takesKey_51 : decode cX9_takesKey 51 = .ok (.istore_n 3, 1) := by decide +kernel
theorem dX9_takesKey_52 : decode cX9_takesKey 52 = .ok (.iconst 0, 1) := by decide +kernel
theorem dX9_takesKey_53 : decode cX9_takesKey 53 = .ok (.istore 4, 2) := by decide +kernel
theorem dX9_takesKey_55 : decode cX9_takesKey 55 = .ok (.iload 4, 2) := by decide +kernel
theorem dX9_takesKey_57 : decode cX9_takesKey 57 = .ok (.iload_n 2, 1) := by decide +kernel
theorem dX9_takesKey_58 : decode cX9_takesKey 58 = .ok (.if_icmp .ge 48, 3) := by decide +kernel
theorem dX9_takesKey_61 : decode cX9_takesKey 61 = .ok (.iload_n 3, 1) := by decide +kernel
theorem dX9_takesKey_62 : decode cX9_takesKey 62 = .ok (.ifCond .eq 44, 3) := by decide +kernel
theorem dX9_takesKey_65 : decode cX9_takesKey 65 = .ok (.aload_n 0, 1) := by decide +kernel
theorem dX9_takesKey_66 : decode cX9_takesKey 66 = .ok (.getfield 25, 3) := by decide +kernel
theorem dX9_takesKey_69 : decode cX9_takesKey 69 = .ok (.aload_n 0, 1) := by decide +kernel
theorem dX9_takesKey_70 : decode cX9_takesKey 70 = .ok (.getfield 227, 3) := by decide +kernel
theorem dX9_takesKey_73 : decode cX9_takesKey 73 = .ok (.iload 4, 2) := by decide +kernel
theorem dX9_takesKey_75 : decode cX9_takesKey 75 = .ok (.iadd, 1) := by decide +kernel
theorem dX9_takesKey_76 : decode cX9_takesKey 76 = .ok (.iaload, 1) := by decide +kernel
theorem dX9_takesKey_77 : decode cX9_takesKey 77 = .ok (.aload_n 0, 1) := by decide +kernel
theorem dX9_takesKey_78 : decode cX9_takesKey 78 = .ok (.getfield 28, 3) := by decide +kernel
theorem dX9_takesKey_81 : decode cX9_takesKey 81 = .ok (.aload_n 0, 1) := by decide +kernel
theorem dX9_takesKey_82 : decode cX9_takesKey 82 = .ok (.getfield 32, 3) := by decide +kernel
theorem dX9_takesKey_85 : decode cX9_takesKey 85 = .ok (.iload_n 1, 1) := by decide +kernel
theorem dX9_takesKey_86 : decode cX9_takesKey 86 = .ok (.iaload, 1) := by decide +kernel
theorem dX9_takesKey_87 : decode cX9_takesKey 87 = .ok (.iload 4, 2) := by decide +kernel
theorem dX9_takesKey_89 : decode cX9_takesKey 89 = .ok (.iadd, 1) := by decide +kernel
theorem dX9_takesKey_90 : decode cX9_takesKey 90 = .ok (.caload, 1) := by decide +kernel
theorem dX9_takesKey_91 : decode cX9_takesKey 91 = .ok (.if_icmp .ne 7, 3) := by decide +kernel
theorem dX9_takesKey_94 : decode cX9_takesKey 94 = .ok (.iconst 1, 1) := by decide +kernel
theorem dX9_takesKey_95 : decode cX9_takesKey 95 = .ok (.goto 4, 3) := by decide +kernel
theorem dX9_takesKey_98 : decode cX9_takesKey 98 = .ok (.iconst 0, 1) := by decide +kernel
theorem dX9_takesKey_99 : decode cX9_takesKey 99 = .ok (.istore_n 3, 1) := by decide +kernel
theorem dX9_takesKey_100 : decode cX9_takesKey 100 = .ok (.iinc 4 1, 3) := by decide +kernel
theorem dX9_takesKey_103 : decode cX9_takesKey 103 = .ok (.goto (-48), 3) := by decide +kernel
theorem dX9_takesKey_106 : decode cX9_takesKey 106 = .ok (.iload_n 3, 1) := by decide +kernel
theorem dX9_takesKey_107 : decode cX9_takesKey 107 = .ok (.ifCond .eq 14, 3) := by decide +kernel
theorem dX9_takesKey_110 : decode cX9_takesKey 110 = .ok (.aload_n 0, 1) := by decide +kernel
theorem dX9_takesKey_111 : decode cX9_takesKey 111 = .ok (.iload_n 1, 1) := by decide +kernel
theorem dX9_takesKey_112 : decode cX9_takesKey 112 = .ok (.putfield 245, 3) := by decide +kernel
theorem dX9_takesKey_115 : decode cX9_takesKey 115 = .ok (.aload_n 0, 1) := by decide +kernel
theorem dX9_takesKey_116 : decode cX9_takesKey 116 = .ok (.invokevirtual 248, 3) := by decide +kernel
theorem dX9_takesKey_119 : decode cX9_takesKey 119 = .ok (.iconst 1, 1) := by decide +kernel
theorem dX9_takesKey_120 : decode cX9_takesKey 120 = .ok (.ireturn, 1) := by decide +kernel
theorem dX9_takesKey_121 : decode cX9_takesKey 121 = .ok (.iinc 1 1, 3) := by decide +kernel
theorem dX9_takesKey_124 : decode cX9_takesKey 124 = .ok (.goto (-112), 3) := by decide +kernel
theorem dX9_takesKey_127 : decode cX9_takesKey 127 = .ok (.iconst 0, 1) := by decide +kernel
theorem dX9_takesKey_128 : decode cX9_takesKey 128 = .ok (.ireturn, 1) := by decide +kernel
theorem dX9_nameOf_0 : decode cX9_nameOf 0 = .ok (.aload_n 0, 1) := by decide +kernel
theorem dX9_nameOf_1 : decode cX9_nameOf 1 = .ok (.getfield 245, 3) := by decide +kernel
theorem dX9_nameOf_4 : decode cX9_nameOf 4 = .ok (.lookupswitch 82 #[(0, 28), (1, 60)], 28) := by decide +kernel
theorem dX9_nameOf_32 : decode cX9_nameOf 32 = .ok (.iload_n 1, 1) := by decide +kernel
theorem dX9_nameOf_33 : decode cX9_nameOf 33 = .ok (.bipush 112, 2) := by decide +kernel
theorem dX9_nameOf_35 : decode cX9_nameOf 35 = .ok (.if_icmp .ne 7, 3) := by decide +kernel
theorem dX9_nameOf_38 : decode cX9_nameOf 38 = .ok (.iconst 0, 1) := by decide +kernel
theorem dX9_nameOf_39 : decode cX9_nameOf 39 = .ok (.goto 24, 3) := by decide +kernel
theorem dX9_nameOf_42 : decode cX9_nameOf 42 = .ok (.iload_n 1, 1) := by decide +kernel
theorem dX9_nameOf_43 : decode cX9_nameOf 43 = .ok (.bipush 99, 2) := by decide +kernel
theorem dX9_nameOf_45 : decode cX9_nameOf 45 = .ok (.if_icmp .ne 7, 3) := by decide +kernel
theorem dX9_nameOf_48 : decode cX9_nameOf 48 = .ok (.iconst 1, 1) := by decide +kernel
theorem dX9_nameOf_49 : decode cX9_nameOf 49 = .ok (.goto 14, 3) := by decide +kernel
theorem dX9_nameOf_52 : decode cX9_nameOf 52 = .ok (.iload_n 1, 1) := by decide +kernel
theorem dX9_nameOf_53 : decode cX9_nameOf 53 = .ok (.bipush 115, 2) := by decide +kernel
theorem dX9_nameOf_55 : decode cX9_nameOf 55 = .ok (.if_icmp .ne 7, 3) := by decide +kernel
theorem dX9_nameOf_58 : decode cX9_nameOf 58 = .ok (.iconst 2, 1) := by decide +kernel
theorem dX9_nameOf_59 : decode cX9_nameOf 59 = .ok (.goto 4, 3) := by decide +kernel
theorem dX9_nameOf_62 : decode cX9_nameOf 62 = .ok (.iconst (-1), 1) := by decide +kernel
theorem dX9_nameOf_63 : decode cX9_nameOf 63 = .ok (.ireturn, 1) := by decide +kernel
theorem dX9_nameOf_64 : decode cX9_nameOf 64 = .ok (.iload_n 1, 1) := by decide +kernel
theorem dX9_nameOf_65 : decode cX9_nameOf 65 = .ok (.bipush 116, 2) := by decide +kernel
theorem dX9_nameOf_67 : decode cX9_nameOf 67 = .ok (.if_icmp .ne 7, 3) := by decide +kernel
theorem dX9_nameOf_70 : decode cX9_nameOf 70 = .ok (.iconst 0, 1) := by decide +kernel
theorem dX9_nameOf_71 : decode cX9_nameOf 71 = .ok (.goto 14, 3) := by decide +kernel
theorem dX9_nameOf_74 : decode cX9_nameOf 74 = .ok (.iload_n 1, 1) := by decide +kernel
theorem dX9_nameOf_75 : decode cX9_nameOf 75 = .ok (.bipush 109, 2) := by decide +kernel
theorem dX9_nameOf_77 : decode cX9_nameOf 77 = .ok (.if_icmp .ne 7, 3) := by decide +kernel
theorem dX9_nameOf_80 : decode cX9_nameOf 80 = .ok (.iconst 1, 1) := by decide +kernel
theorem dX9_nameOf_81 : decode cX9_nameOf 81 = .ok (.goto 4, 3) := by decide +kernel
theorem dX9_nameOf_84 : decode cX9_nameOf 84 = .ok (.iconst (-1), 1) := by decide +kernel
theorem dX9_nameOf_85 : decode cX9_nameOf 85 = .ok (.ireturn, 1) := by decide +kernel
theorem dX9_nameOf_86 : decode cX9_nameOf 86 = .ok (.iload_n 1, 1) := by decide +kernel
theorem dX9_nameOf_87 : decode cX9_nameOf 87 = .ok (.bipush 112, 2) := by decide +kernel
theorem dX9_nameOf_89 : decode cX9_nameOf 89 = .ok (.if_icmp .ne 7, 3) := by decide +kernel
theorem dX9_nameOf_92 : decode cX9_nameOf 92 = .ok (.iconst 0, 1) := by decide +kernel
theorem dX9_nameOf_93 : decode cX9_nameOf 93 = .ok (.goto 14, 3) := by decide +kernel
theorem dX9_nameOf_96 : decode cX9_nameOf 96 = .ok (.iload_n 1, 1) := by decide +kernel
theorem dX9_nameOf_97 : decode cX9_nameOf 97 = .ok (.bipush 115, 2) := by decide +kernel
theorem dX9_nameOf_99 : decode cX9_nameOf 99 = .ok (.if_icmp .ne 7, 3) := by decide +kernel
theorem dX9_nameOf_102 : decode cX9_nameOf 102 = .ok (.iconst 1, 1) := by decide +kernel
theorem dX9_nameOf_103 : decode cX9_nameOf 103 = .ok (.goto 4, 3) := by decide +kernel
theorem dX9_nameOf_106 : decode cX9_nameOf 106 = .ok (.iconst (-1), 1) := by decide +kernel
theorem dX9_nameOf_107 : decode cX9_nameOf 107 = .ok (.ireturn, 1) := by decide +kernel
theorem dX9_rank_0 : decode cX9_rank 0 = .ok (.iload_n 0, 1) := by decide +kernel
theorem dX9_rank_1 : decode cX9_rank 1 = .ok (.iconst (-1), 1) := by decide +kernel
theorem dX9_rank_2 : decode cX9_rank 2 = .ok (.if_icmp .ne 7, 3) := by decide +kernel
theorem dX9_rank_5 : decode cX9_rank 5 = .ok (.iconst 1, 1) := by decide +kernel
theorem dX9_rank_6 : decode cX9_rank 6 = .ok (.goto 45, 3) := by decide +kernel
theorem dX9_rank_9 : decode cX9_rank 9 = .ok (.iload_n 0, 1) := by decide +kernel
theorem dX9_rank_10 : decode cX9_rank 10 = .ok (.bipush (-2), 2) := by decide +kernel
theorem dX9_rank_12 : decode cX9_rank 12 = .ok (.if_icmp .ne 7, 3) := by decide +kernel
theorem dX9_rank_15 : decode cX9_rank 15 = .ok (.iconst 2, 1) := by decide +kernel
theorem dX9_rank_16 : decode cX9_rank 16 = .ok (.goto 35, 3) := by decide +kernel
theorem dX9_rank_19 : decode cX9_rank 19 = .ok (.iload_n 0, 1) := by decide +kernel
theorem dX9_rank_20 : decode cX9_rank 20 = .ok (.bipush (-5), 2) := by decide +kernel
theorem dX9_rank_22 : decode cX9_rank 22 = .ok (.if_icmp .lt 7, 3) := by decide +kernel
theorem dX9_rank_25 : decode cX9_rank 25 = .ok (.iconst 3, 1) := by decide +kernel
theorem dX9_rank_26 : decode cX9_rank 26 = .ok (.goto 25, 3) := by decide +kernel
theorem dX9_rank_29 : decode cX9_rank 29 = .ok (.iload_n 0, 1) := by decide +kernel
theorem dX9_rank_30 : decode cX9_rank 30 = .ok (.bipush (-7), 2) := by decide +kernel
theorem dX9_rank_32 : decode cX9_rank 32 = .ok (.if_icmp .lt 7, 3) := by decide +kernel
theorem dX9_rank_35 : decode cX9_rank 35 = .ok (.iconst 4, 1) := by decide +kernel
theorem dX9_rank_36 : decode cX9_rank 36 = .ok (.goto 15, 3) := by decide +kernel
theorem dX9_rank_39 : decode cX9_rank 39 = .ok (.iload_n 0, 1) := by decide +kernel
theorem dX9_rank_40 : decode cX9_rank 40 = .ok (.bipush (-9), 2) := by decide +kernel
theorem dX9_rank_42 : decode cX9_rank 42 = .ok (.if_icmp .lt 7, 3) := by decide +kernel
theorem dX9_rank_45 : decode cX9_rank 45 = .ok (.iconst 5, 1) := by decide +kernel
theorem dX9_rank_46 : decode cX9_rank 46 = .ok (.goto 5, 3) := by decide +kernel
theorem dX9_rank_49 : decode cX9_rank 49 = .ok (.bipush 6, 2) := by decide +kernel
theorem dX9_rank_51 : decode cX9_rank 51 = .ok (.ireturn, 1) := by decide +kernel
theorem dX9_settle_0 : decode cX9_settle 0 = .ok (.aload_n 0, 1) := by decide +kernel
theorem dX9_settle_1 : decode cX9_settle 1 = .ok (.getfield 251, 3) := by decide +kernel
theorem dX9_settle_4 : decode cX9_settle 4 = .ok (.ifCond .le 78, 3) := by decide +kernel
theorem dX9_settle_7 : decode cX9_settle 7 = .ok (.aload_n 0, 1) := by decide +kernel
theorem dX9_settle_8 : decode cX9_settle 8 = .ok (.getfield 38, 3) := by decide +kernel
theorem dX9_settle_11 : decode cX9_settle 11 = .ok (.aload_n 0, 1) := by decide +kernel
theorem dX9_settle_12 : decode cX9_settle 12 = .ok (.getfield 251, 3) := by decide +kernel
theorem dX9_settle_15 : decode cX9_settle 15 = .ok (.iconst 1, 1) := by decide +kernel
theorem dX9_settle_16 : decode cX9_settle 16 = .ok (.isub, 1) := by decide +kernel
theorem dX9_settle_17 : decode cX9_settle 17 = .ok (.iaload, 1) := by decide +kernel
theorem dX9_settle_18 : decode cX9_settle 18 = .ok (.bipush (-11), 2) := by decide +kernel
theorem dX9_settle_20 : decode cX9_settle 20 = .ok (.if_icmp .eq 62, 3) := by decide +kernel
theorem dX9_settle_23 : decode cX9_settle 23 = .ok (.aload_n 0, 1) := by decide +kernel
theorem dX9_settle_24 : decode cX9_settle 24 = .ok (.getfield 38, 3) := by decide +kernel
theorem dX9_settle_27 : decode cX9_settle 27 = .ok (.aload_n 0, 1) := by decide +kernel
theorem dX9_settle_28 : decode cX9_settle 28 = .ok (.getfield 251, 3) := by decide +kernel
theorem dX9_settle_31 : decode cX9_settle 31 = .ok (.iconst 1, 1) := by decide +kernel
theorem dX9_settle_32 : decode cX9_settle 32 = .ok (.isub, 1) := by decide +kernel
theorem dX9_settle_33 : decode cX9_settle 33 = .ok (.iaload, 1) := by decide +kernel
theorem dX9_settle_34 : decode cX9_settle 34 = .ok (.invokestatic 254, 3) := by decide +kernel
theorem dX9_settle_37 : decode cX9_settle 37 = .ok (.iload_n 1, 1) := by decide +kernel
theorem dX9_settle_38 : decode cX9_settle 38 = .ok (.if_icmp .lt 44, 3) := by decide +kernel
theorem dX9_settle_41 : decode cX9_settle 41 = .ok (.aload_n 0, 1) := by decide +kernel
theorem dX9_settle_42 : decode cX9_settle 42 = .ok (.dup, 1) := by decide +kernel
theorem dX9_settle_43 : decode cX9_settle 43 = .ok (.getfield 251, 3) := by decide +kernel
theorem dX9_settle_46 : decode cX9_settle 46 = .ok (.iconst 1, 1) := by decide +kernel
theorem dX9_settle_47 : decode cX9_settle 47 = .ok (.isub, 1) := by decide +kernel
theorem dX9_settle_48 : decode cX9_settle 48 = .ok (.putfield 251, 3) := by decide +kernel
theorem dX9_settle_51 : decode cX9_settle 51 = .ok (.aload_n 0, 1) := by decide +kernel
theorem dX9_settle_52 : decode cX9_settle 52 = .ok (.getfield 35, 3) := by decide +kernel
theorem dX9_settle_55 : decode cX9_settle 55 = .ok (.aload_n 0, 1) := by decide +kernel
theorem dX9_settle_56 : decode cX9_settle 56 = .ok (.getfield 257, 3) := by decide +kernel
theorem dX9_settle_59 : decode cX9_settle 59 = .ok (.aload_n 0, 1) := by decide +kernel
theorem dX9_settle_60 : decode cX9_settle 60 = .ok (.getfield 38, 3) := by decide +kernel
theorem dX9_settle_63 : decode cX9_settle 63 = .ok (.aload_n 0, 1) := by decide +kernel
theorem dX9_settle_64 : decode cX9_settle 64 = .ok (.getfield 251, 3) := by decide +kernel
theorem dX9_settle_67 : decode cX9_settle 67 = .ok (.iaload, 1) := by decide +kernel
theorem dX9_settle_68 : decode cX9_settle 68 = .ok (.iastore, 1) := by decide +kernel
theorem dX9_settle_69 : decode cX9_settle 69 = .ok (.aload_n 0, 1) := by decide +kernel
theorem dX9_settle_70 : decode cX9_settle 70 = .ok (.dup, 1) := by decide +kernel
theorem dX9_settle_71 : decode cX9_settle 71 = .ok (.getfield 257, 3) := by decide +kernel
theorem dX9_settle_74 : decode cX9_settle 74 = .ok (.iconst 1, 1) := by decide +kernel
theorem dX9_settle_75 : decode cX9_settle 75 = .ok (.iadd, 1) := by decide +kernel
theorem dX9_settle_76 : decode cX9_settle 76 = .ok (.putfield 257, 3) := by decide +kernel
theorem dX9_settle_79 : decode cX9_settle 79 = .ok (.goto (-79), 3) := by decide +kernel
theorem dX9_settle_82 : decode cX9_settle 82 = .ok (.return_, 1) := by decide +kernel
theorem dX9_signHere_0 : decode cX9_signHere 0 = .ok (.aload_n 0, 1) := by decide +kernel
theorem dX9_signHere_1 : decode cX9_signHere 1 = .ok (.getfield 233, 3) := by decide +kernel
theorem dX9_signHere_4 : decode cX9_signHere 4 = .ok (.iconst 3, 1) := by decide +kernel
theorem dX9_signHere_5 : decode cX9_signHere 5 = .ok (.if_icmp .eq 5, 3) := by decide +kernel
theorem dX9_signHere_8 : decode cX9_signHere 8 = .ok (.iconst 0, 1) := by decide +kernel
theorem dX9_signHere_9 : decode cX9_signHere 9 = .ok (.ireturn, 1) := by decide +kernel
theorem dX9_signHere_10 : decode cX9_signHere 10 = .ok (.aload_n 0, 1) := by decide +kernel
theorem dX9_signHere_11 : decode cX9_signHere 11 = .ok (.getfield 239, 3) := by decide +kernel
theorem dX9_signHere_14 : decode cX9_signHere 14 = .ok (.lookupswitch 108 #[(38, 84), (42, 102), (43, 96), (45, 99), (47, 105), (60, 87), (61, 90), (62, 93), (124, 82)], 82) := by decide +kernel
theorem dX9_signHere_96 : decode cX9_signHere 96 = .ok (.iconst (-1), 1) := by decide +kernel
theorem dX9_signHere_97 : decode cX9_signHere 97 = .ok (.ireturn, 1) := by decide +kernel
theorem dX9_signHere_98 : decode cX9_signHere 98 = .ok (.bipush (-2), 2) := by decide +kernel
theorem dX9_signHere_100 : decode cX9_signHere 100 = .ok (.ireturn, 1) := by decide +kernel
theorem dX9_signHere_101 : decode cX9_signHere 101 = .ok (.bipush (-3), 2) := by decide +kernel
theorem dX9_signHere_103 : decode cX9_signHere 103 = .ok (.ireturn, 1) := by decide +kernel
theorem dX9_signHere_104 : decode cX9_signHere 104 = .ok (.bipush (-4), 2) := by decide +kernel
theorem dX9_signHere_106 : decode cX9_signHere 106 = .ok (.ireturn, 1) := by decide +kernel
theorem dX9_signHere_107 : decode cX9_signHere 107 = .ok (.bipush (-5), 2) := by decide +kernel
theorem dX9_signHere_109 : decode cX9_signHere 109 = .ok (.ireturn, 1) := by decide +kernel
theorem dX9_signHere_110 : decode cX9_signHere 110 = .ok (.bipush (-6), 2) := by decide +kernel
theorem dX9_signHere_112 : decode cX9_signHere 112 = .ok (.ireturn, 1) := by decide +kernel
theorem dX9_signHere_113 : decode cX9_signHere 113 = .ok (.bipush (-7), 2) := by decide +kernel
theorem dX9_signHere_115 : decode cX9_signHere 115 = .ok (.ireturn, 1) := by decide +kernel
theorem dX9_signHere_116 : decode cX9_signHere 116 = .ok (.bipush (-8), 2) := by decide +kernel
theorem dX9_signHere_118 : decode cX9_signHere 118 = .ok (.ireturn, 1) := by decide +kernel
theorem dX9_signHere_119 : decode cX9_signHere 119 = .ok (.bipush (-9), 2) := by decide +kernel
theorem dX9_signHere_121 : decode cX9_signHere 121 = .ok (.ireturn, 1) := by decide +kernel
theorem dX9_signHere_122 : decode cX9_signHere 122 = .ok (.iconst 0, 1) := by decide +kernel
theorem dX9_signHere_123 : decode cX9_signHere 123 = .ok (.ireturn, 1) := by decide +kernel
theorem dX9_takesPart_0 : decode cX9_takesPart 0 = .ok (.aload_n 0, 1) := by decide +kernel
theorem dX9_takesPart_1 : decode cX9_takesPart 1 = .ok (.getfield 233, 3) := by decide +kernel
theorem dX9_takesPart_4 : decode cX9_takesPart 4 = .ok (.iconst 1, 1) := by decide +kernel
theorem dX9_takesPart_5 : decode cX9_takesPart 5 = .ok (.if_icmp .ne 31, 3) := by decide +kernel
theorem dX9_takesPart_8 : decode cX9_takesPart 8 = .ok (.aload_n 0, 1) := by decide +kernel
theorem dX9_takesPart_9 : decode cX9_takesPart 9 = .ok (.getfield 224, 3) := by decide +kernel
theorem dX9_takesPart_12 : decode cX9_takesPart 12 = .ok (.aload_n 0, 1) := by decide +kernel
theorem dX9_takesPart_13 : decode cX9_takesPart 13 = .ok (.getfield 227, 3) := by decide +kernel
theorem dX9_takesPart_16 : decode cX9_takesPart 16 = .ok (.isub, 1) := by decide +kernel
theorem dX9_takesPart_17 : decode cX9_takesPart 17 = .ok (.iconst 1, 1) := by decide +kernel
theorem dX9_takesPart_18 : decode cX9_takesPart 18 = .ok (.if_icmp .ne 18, 3) := by decide +kernel
theorem dX9_takesPart_21 : decode cX9_takesPart 21 = .ok (.aload_n 0, 1) := by decide +kernel
theorem dX9_takesPart_22 : decode cX9_takesPart 22 = .ok (.aload_n 0, 1) := by decide +kernel
theorem dX9_takesPart_23 : decode cX9_takesPart 23 = .ok (.getfield 239, 3) := by decide +kernel
theorem dX9_takesPart_26 : decode cX9_takesPart 26 = .ok (.invokevirtual 260, 3) := by decide +kernel
theorem dX9_takesPart_29 : decode cX9_takesPart 29 = .ok (.ifCond .lt 7, 3) := by decide +kernel
theorem dX9_takesPart_32 : decode cX9_takesPart 32 = .ok (.iconst 1, 1) := by decide +kernel
theorem dX9_takesPart_33 : decode cX9_takesPart 33 = .ok (.goto 4, 3) := by decide +kernel
theorem dX9_takesPart_36 : decode cX9_takesPart 36 = .ok (.iconst 0, 1) := by decide +kernel
theorem dX9_takesPart_37 : decode cX9_takesPart 37 = .ok (.istore_n 1, 1) := by decide +kernel
theorem dX9_takesPart_38 : decode cX9_takesPart 38 = .ok (.aload_n 0, 1) := by decide +kernel
theorem dX9_takesPart_39 : decode cX9_takesPart 39 = .ok (.getfield 233, 3) := by decide +kernel
theorem dX9_takesPart_42 : decode cX9_takesPart 42 = .ok (.iconst 2, 1) := by decide +kernel
theorem dX9_takesPart_43 : decode cX9_takesPart 43 = .ok (.if_icmp .eq 9, 3) := by decide +kernel
theorem dX9_takesPart_46 : decode cX9_takesPart 46 = .ok (.iload_n 1, 1) := by decide +kernel
theorem dX9_takesPart_47 : decode cX9_takesPart 47 = .ok (.ifCond .ne 5, 3) := by decide +kernel
theorem dX9_takesPart_50 : decode cX9_takesPart 50 = .ok (.iconst 0, 1) := by decide +kernel
theorem dX9_takesPart_51 : decode cX9_takesPart 51 = .ok (.ireturn, 1) := by decide +kernel
theorem dX9_takesPart_52 : decode cX9_takesPart 52 = .ok (.aload_n 0, 1) := by decide +kernel
theorem dX9_takesPart_53 : decode cX9_takesPart 53 = .ok (.getfield 35, 3) := by decide +kernel
theorem dX9_takesPart_56 : decode cX9_takesPart 56 = .ok (.aload_n 0, 1) := by decide +kernel
theorem dX9_takesPart_57 : decode cX9_takesPart 57 = .ok (.getfield 257, 3) := by decide +kernel
theorem dX9_takesPart_60 : decode cX9_takesPart 60 = .ok (.aload_n 0, 1) := by decide +kernel
theorem dX9_takesPart_61 : decode cX9_takesPart 61 = .ok (.getfield 233, 3) := by decide +kernel
theorem dX9_takesPart_64 : decode cX9_takesPart 64 = .ok (.iconst 2, 1) := by decide +kernel
theorem dX9_takesPart_65 : decode cX9_takesPart 65 = .ok (.if_icmp .ne 10, 3) := by decide +kernel
theorem dX9_takesPart_68 : decode cX9_takesPart 68 = .ok (.aload_n 0, 1) := by decide +kernel
theorem dX9_takesPart_69 : decode cX9_takesPart 69 = .ok (.getfield 239, 3) := by decide +kernel
theorem dX9_takesPart_72 : decode cX9_takesPart 72 = .ok (.goto 15, 3) := by decide +kernel
theorem dX9_takesPart_75 : decode cX9_takesPart 75 = .ok (.sipush 10000, 3) := by decide +kernel
theorem dX9_takesPart_78 : decode cX9_takesPart 78 = .ok (.aload_n 0, 1) := by decide +kernel
theorem dX9_takesPart_79 : decode cX9_takesPart 79 = .ok (.aload_n 0, 1) := by decide +kernel
theorem dX9_takesPart_80 : decode cX9_takesPart 80 = .ok (.getfield 239, 3) := by decide +kernel
theorem dX9_takesPart_83 : decode cX9_takesPart 83 = .ok (.invokevirtual 260, 3) := by decide +kernel
theorem dX9_takesPart_86 : decode cX9_takesPart 86 = .ok (.iadd, 1) := by decide +kernel
theorem dX9_takesPart_87 : decode cX9_takesPart 87 = .ok (.iastore, 1) := by decide +kernel
theorem dX9_takesPart_88 : decode cX9_takesPart 88 = .ok (.aload_n 0, 1) := by decide +kernel
theorem dX9_takesPart_89 : decode cX9_takesPart 89 = .ok (.dup, 1) := by decide +kernel
theorem dX9_takesPart_90 : decode cX9_takesPart 90 = .ok (.getfield 257, 3) := by decide +kernel
theorem dX9_takesPart_93 : decode cX9_takesPart 93 = .ok (.iconst 1, 1) := by decide +kernel
theorem dX9_takesPart_94 : decode cX9_takesPart 94 = .ok (.iadd, 1) := by decide +kernel
theorem dX9_takesPart_95 : decode cX9_takesPart 95 = .ok (.putfield 257, 3) := by decide +kernel
theorem dX9_takesPart_98 : decode cX9_takesPart 98 = .ok (.aload_n 0, 1) := by decide +kernel
theorem dX9_takesPart_99 : decode cX9_takesPart 99 = .ok (.dup, 1) := by decide +kernel
theorem dX9_takesPart_100 : decode cX9_takesPart 100 = .ok (.getfield 263, 3) := by decide +kernel
theorem dX9_takesPart_103 : decode cX9_takesPart 103 = .ok (.iconst 1, 1) := by decide +kernel
theorem dX9_takesPart_104 : decode cX9_takesPart 104 = .ok (.iadd, 1) := by decide +kernel
theorem dX9_takesPart_105 : decode cX9_takesPart 105 = .ok (.putfield 263, 3) := by decide +kernel
theorem dX9_takesPart_108 : decode cX9_takesPart 108 = .ok (.aload_n 0, 1) := by decide +kernel
theorem dX9_takesPart_109 : decode cX9_takesPart 109 = .ok (.bipush 6, 2) := by decide +kernel
theorem dX9_takesPart_111 : decode cX9_takesPart 111 = .ok (.invokevirtual 266, 3) := by decide +kernel
theorem dX9_takesPart_114 : decode cX9_takesPart 114 = .ok (.aload_n 0, 1) := by decide +kernel
theorem dX9_takesPart_115 : decode cX9_takesPart 115 = .ok (.invokevirtual 248, 3) := by decide +kernel
theorem dX9_takesPart_118 : decode cX9_takesPart 118 = .ok (.iconst 1, 1) := by decide +kernel
theorem dX9_takesPart_119 : decode cX9_takesPart 119 = .ok (.ireturn, 1) := by decide +kernel
theorem dX9_takesE_0 : decode cX9_takesE 0 = .ok (.iconst 0, 1) := by decide +kernel
theorem dX9_takesE_1 : decode cX9_takesE 1 = .ok (.istore_n 1, 1) := by decide +kernel
theorem dX9_takesE_2 : decode cX9_takesE 2 = .ok (.iconst 0, 1) := by decide +kernel
theorem dX9_takesE_3 : decode cX9_takesE 3 = .ok (.istore_n 2, 1) := by decide +kernel
theorem dX9_takesE_4 : decode cX9_takesE 4 = .ok (.iconst 1, 1) := by decide +kernel
theorem dX9_takesE_5 : decode cX9_takesE 5 = .ok (.istore_n 3, 1) := by decide +kernel
theorem dX9_takesE_6 : decode cX9_takesE 6 = .ok (.aload_n 0, 1) := by decide +kernel
theorem dX9_takesE_7 : decode cX9_takesE 7 = .ok (.iconst 0, 1) := by decide +kernel
theorem dX9_takesE_8 : decode cX9_takesE 8 = .ok (.putfield 257, 3) := by decide +kernel
theorem dX9_takesE_11 : decode cX9_takesE 11 = .ok (.aload_n 0, 1) := by decide +kernel
theorem dX9_takesE_12 : decode cX9_takesE 12 = .ok (.iconst 0, 1) := by decide +kernel
theorem dX9_takesE_13 : decode cX9_takesE 13 = .ok (.putfield 263, 3) := by decide +kernel
theorem dX9_takesE_16 : decode cX9_takesE 16 = .ok (.aload_n 0, 1) := by decide +kernel
theorem dX9_takesE_17 : decode cX9_takesE 17 = .ok (.iconst 0, 1) := by decide +kernel
theorem dX9_takesE_18 : decode cX9_takesE 18 = .ok (.putfield 251, 3) := by decide +kernel
theorem dX9_takesE_21 : decode cX9_takesE 21 = .ok (.aload_n 0, 1) := by decide +kernel
theorem dX9_takesE_22 : decode cX9_takesE 22 = .ok (.getfield 41, 3) := by decide +kernel
theorem dX9_takesE_25 : decode cX9_takesE 25 = .ok (.iconst 0, 1) := by decide +kernel
theorem dX9_takesE_26 : decode cX9_takesE 26 = .ok (.iconst 0, 1) := by decide +kernel
theorem dX9_takesE_27 : decode cX9_takesE 27 = .ok (.bastore, 1) := by decide +kernel
theorem dX9_takesE_28 : decode cX9_takesE 28 = .ok (.iload_n 3, 1) := by decide +kernel
theorem dX9_takesE_29 : decode cX9_takesE 29 = .ok (.ifCond .ne 10, 3) := by decide +kernel
theorem dX9_takesE_32 : decode cX9_takesE 32 = .ok (.aload_n 0, 1) := by decide +kernel
theorem dX9_takesE_33 : decode cX9_takesE 33 = .ok (.getfield 233, 3) := by decide +kernel
theorem dX9_takesE_36 : decode cX9_takesE 36 = .ok (.ifCond .eq 309, 3) := by decide +kernel
theorem dX9_takesE_39 : decode cX9_takesE 39 = .ok (.iload_n 3, 1) := by decide +kernel
theorem dX9_takesE_40 : decode cX9_takesE 40 = .ok (.ifCond .eq 140, 3) := by decide +kernel
theorem dX9_takesE_43 : decode cX9_takesE 43 = .ok (.aload_n 0, 1) := by decide +kernel
theorem dX9_takesE_44 : decode cX9_takesE 44 = .ok (.getfield 233, 3) := by decide +kernel
theorem dX9_takesE_47 : decode cX9_takesE 47 = .ok (.iconst 3, 1) := by decide +kernel
theorem dX9_takesE_48 : decode cX9_takesE 48 = .ok (.if_icmp .ne 49, 3) := by decide +kernel
theorem dX9_takesE_51 : decode cX9_takesE 51 = .ok (.aload_n 0, 1) := by decide +kernel
theorem dX9_takesE_52 : decode cX9_takesE 52 = .ok (.getfield 239, 3) := by decide +kernel
theorem dX9_takesE_55 : decode cX9_takesE 55 = .ok (.bipush 33, 2) := by decide +kernel
theorem dX9_takesE_57 : decode cX9_takesE 57 = .ok (.if_icmp .ne 40, 3) := by decide +kernel
theorem dX9_takesE_60 : decode cX9_takesE 60 = .ok (.iload_n 2, 1) := by decide +kernel
theorem dX9_takesE_61 : decode cX9_takesE 61 = .ok (.bipush 8, 2) := by decide +kernel
theorem dX9_takesE_63 : decode cX9_takesE 63 = .ok (.if_icmp .ge 34, 3) := by decide +kernel
theorem dX9_takesE_66 : decode cX9_takesE 66 = .ok (.aload_n 0, 1) := by decide +kernel
theorem dX9_takesE_67 : decode cX9_takesE 67 = .ok (.getfield 38, 3) := by decide +kernel
theorem dX9_takesE_70 : decode cX9_takesE 70 = .ok (.aload_n 0, 1) := by decide +kernel
theorem dX9_takesE_71 : decode cX9_takesE 71 = .ok (.getfield 251, 3) := by decide +kernel
theorem dX9_takesE_74 : decode cX9_takesE 74 = .ok (.bipush (-10), 2) := by decide +kernel
theorem dX9_takesE_76 : decode cX9_takesE 76 = .ok (.iastore, 1) := by decide +kernel
theorem dX9_takesE_77 : decode cX9_takesE 77 = .ok (.aload_n 0, 1) := by decide +kernel
theorem dX9_takesE_78 : decode cX9_takesE 78 = .ok (.dup, 1) := by decide +kernel
theorem dX9_takesE_79 : decode cX9_takesE 79 = .ok (.getfield 251, 3) := by decide +kernel
theorem dX9_takesE_82 : decode cX9_takesE 82 = .ok (.iconst 1, 1) := by decide +kernel
theorem dX9_takesE_83 : decode cX9_takesE 83 = .ok (.iadd, 1) := by decide +kernel
theorem dX9_takesE_84 : decode cX9_takesE 84 = .ok (.putfield 251, 3) := by decide +kernel
theorem dX9_takesE_87 : decode cX9_takesE 87 = .ok (.iinc 2 1, 3) := by decide +kernel
theorem dX9_takesE_90 : decode cX9_takesE 90 = .ok (.aload_n 0, 1) := by decide +kernel
theorem dX9_takesE_91 : decode cX9_takesE 91 = .ok (.invokevirtual 248, 3) := by decide +kernel
theorem dX9_takesE_94 : decode cX9_takesE 94 = .ok (.goto 78, 3) := by decide +kernel
theorem dX9_takesE_97 : decode cX9_takesE 97 = .ok (.aload_n 0, 1) := by decide +kernel
theorem dX9_takesE_98 : decode cX9_takesE 98 = .ok (.getfield 233, 3) := by decide +kernel
theorem dX9_takesE_101 : decode cX9_takesE 101 = .ok (.iconst 3, 1) := by decide +kernel
theorem dX9_takesE_102 : decode cX9_takesE 102 = .ok (.if_icmp .ne 56, 3) := by decide +kernel
theorem dX9_takesE_105 : decode cX9_takesE 105 = .ok (.aload_n 0, 1) := by decide +kernel
theorem dX9_takesE_106 : decode cX9_takesE 106 = .ok (.getfield 239, 3) := by decide +kernel
theorem dX9_takesE_109 : decode cX9_takesE 109 = .ok (.bipush 40, 2) := by decide +kernel
theorem dX9_takesE_111 : decode cX9_takesE 111 = .ok (.if_icmp .ne 47, 3) := by decide +kernel
theorem dX9_takesE_114 : decode cX9_takesE 114 = .ok (.iload_n 1, 1) := by decide +kernel
theorem dX9_takesE_115 : decode cX9_takesE 115 = .ok (.bipush 8, 2) := by decide +kernel
theorem dX9_takesE_117 : decode cX9_takesE 117 = .ok (.if_icmp .ge 41, 3) := by decide +kernel
theorem dX9_takesE_120 : decode cX9_takesE 120 = .ok (.aload_n 0, 1) := by decide +kernel
theorem dX9_takesE_121 : decode cX9_takesE 121 = .ok (.getfield 38, 3) := by decide +kernel
theorem dX9_takesE_124 : decode cX9_takesE 124 = .ok (.aload_n 0, 1) := by decide +kernel
theorem dX9_takesE_125 : decode cX9_takesE 125 = .ok (.getfield 251, 3) := by decide +kernel
theorem dX9_takesE_128 : decode cX9_takesE 128 = .ok (.bipush (-11), 2) := by decide +kernel
theorem dX9_takesE_130 : decode cX9_takesE 130 = .ok (.iastore, 1) := by decide +kernel
theorem dX9_takesE_131 : decode cX9_takesE 131 = .ok (.aload_n 0, 1) := by decide +kernel
theorem dX9_takesE_132 : decode cX9_takesE 132 = .ok (.dup, 1) := by decide +kernel
theorem dX9_takesE_133 : decode cX9_takesE 133 = .ok (.getfield 251, 3) := by decide +kernel
theorem dX9_takesE_136 : decode cX9_takesE 136 = .ok (.iconst 1, 1) := by decide +kernel
theorem dX9_takesE_137 : decode cX9_takesE 137 = .ok (.iadd, 1) := by decide +kernel
theorem dX9_takesE_138 : decode cX9_takesE 138 = .ok (.putfield 251, 3) := by decide +kernel
theorem dX9_takesE_141 : decode cX9_takesE 141 = .ok (.iinc 1 1, 3) := by decide +kernel
theorem dX9_takesE_144 : decode cX9_takesE 144 = .ok (.aload_n 0, 1) := by decide +kernel
theorem dX9_takesE_145 : decode cX9_takesE 145 = .ok (.getfield 41, 3) := by decide +kernel
theorem dX9_takesE_148 : decode cX9_takesE 148 = .ok (.iload_n 1, 1) := by decide +kernel
theorem dX9_takesE_149 : decode cX9_takesE 149 = .ok (.iconst 0, 1) := by decide +kernel
theorem dX9_takesE_150 : decode cX9_takesE 150 = .ok (.bastore, 1) := by decide +kernel
theorem dX9_takesE_151 : decode cX9_takesE 151 = .ok (.aload_n 0, 1) := by decide +kernel
theorem dX9_takesE_152 : decode cX9_takesE 152 = .ok (.invokevirtual 248, 3) := by decide +kernel
theorem dX9_takesE_155 : decode cX9_takesE 155 = .ok (.goto 17, 3) := by decide +kernel
theorem dX9_takesE_158 : decode cX9_takesE 158 = .ok (.aload_n 0, 1) := by decide +kernel
theorem dX9_takesE_159 : decode cX9_takesE 159 = .ok (.invokevirtual 269, 3) := by decide +kernel
theorem dX9_takesE_162 : decode cX9_takesE 162 = .ok (.ifCond .eq 8, 3) := by decide +kernel
theorem dX9_takesE_165 : decode cX9_takesE 165 = .ok (.iconst 0, 1) := by decide +kernel
theorem dX9_takesE_166 : decode cX9_takesE 166 = .ok (.istore_n 3, 1) := by decide +kernel
theorem dX9_takesE_167 : decode cX9_takesE 167 = .ok (.goto 5, 3) := by decide +kernel
theorem dX9_takesE_170 : decode cX9_takesE 170 = .ok (.iconst 0, 1) := by decide +kernel
theorem dX9_takesE_171 : decode cX9_takesE 171 = .ok (.ireturn, 1) := by decide +kernel
theorem dX9_takesE_172 : decode cX9_takesE 172 = .ok (.aload_n 0, 1) := by decide +kernel
theorem dX9_takesE_173 : decode cX9_takesE 173 = .ok (.invokevirtual 272, 3) := by decide +kernel
theorem dX9_takesE_176 : decode cX9_takesE 176 = .ok (.istore_n 2, 1) := by decide +kernel
theorem dX9_takesE_177 : decode cX9_takesE 177 = .ok (.goto (-149), 3) := by decide +kernel
theorem dX9_takesE_180 : decode cX9_takesE 180 = .ok (.aload_n 0, 1) := by decide +kernel
theorem dX9_takesE_181 : decode cX9_takesE 181 = .ok (.getfield 233, 3) := by decide +kernel
theorem dX9_takesE_184 : decode cX9_takesE 184 = .ok (.iconst 3, 1) := by decide +kernel
theorem dX9_takesE_185 : decode cX9_takesE 185 = .ok (.if_icmp .ne 52, 3) := by decide +kernel
theorem dX9_takesE_188 : decode cX9_takesE 188 = .ok (.aload_n 0, 1) := by decide +kernel
theorem dX9_takesE_189 : decode cX9_takesE 189 = .ok (.getfield 239, 3) := by decide +kernel
theorem dX9_takesE_192 : decode cX9_takesE 192 = .ok (.bipush 41, 2) := by decide +kernel
theorem dX9_takesE_194 : decode cX9_takesE 194 = .ok (.if_icmp .ne 43, 3) := by decide +kernel
theorem dX9_takesE_197 : decode cX9_takesE 197 = .ok (.iload_n 1, 1) := by decide +kernel
theorem dX9_takesE_198 : decode cX9_takesE 198 = .ok (.ifCond .le 39, 3) := by decide +kernel
theorem dX9_takesE_201 : decode cX9_takesE 201 = .ok (.aload_n 0, 1) := by decide +kernel
theorem dX9_takesE_202 : decode cX9_takesE 202 = .ok (.iconst 0, 1) := by decide +kernel
theorem dX9_takesE_203 : decode cX9_takesE 203 = .ok (.invokevirtual 266, 3) := by decide +kernel
theorem dX9_takesE_206 : decode cX9_takesE 206 = .ok (.aload_n 0, 1) := by decide +kernel
theorem dX9_takesE_207 : decode cX9_takesE 207 = .ok (.dup, 1) := by decide +kernel
theorem dX9_takesE_208 : decode cX9_takesE 208 = .ok (.getfield 251, 3) := by decide +kernel
theorem dX9_takesE_211 : decode cX9_takesE 211 = .ok (.iconst 1, 1) := by decide +kernel
theorem dX9_takesE_212 : decode cX9_takesE 212 = .ok (.isub, 1) := by decide +kernel
theorem dX9_takesE_213 : decode cX9_takesE 213 = .ok (.putfield 251, 3) := by decide +kernel
theorem dX9_takesE_216 : decode cX9_takesE 216 = .ok (.iinc 1 (-1), 3) := by decide +kernel
theorem dX9_takesE_219 : decode cX9_takesE 219 = .ok (.aload_n 0, 1) := by decide +kernel
theorem dX9_takesE_220 : decode cX9_takesE 220 = .ok (.bipush 6, 2) := by decide +kernel
theorem dX9_takesE_222 : decode cX9_takesE 222 = .ok (.invokevirtual 266, 3) := by decide +kernel
theorem dX9_takesE_225 : decode cX9_takesE 225 = .ok (.aload_n 0, 1) := by decide +kernel
theorem dX9_takesE_226 : decode cX9_takesE 226 = .ok (.invokevirtual 272, 3) := by decide +kernel
theorem dX9_takesE_229 : decode cX9_takesE 229 = .ok (.istore_n 2, 1) := by decide +kernel
theorem dX9_takesE_230 : decode cX9_takesE 230 = .ok (.aload_n 0, 1) := by decide +kernel
theorem dX9_takesE_231 : decode cX9_takesE 231 = .ok (.invokevirtual 248, 3) := by decide +kernel
theorem dX9_takesE_234 : decode cX9_takesE 234 = .ok (.goto (-206), 3) := by decide +kernel
theorem dX9_takesE_237 : decode cX9_takesE 237 = .ok (.aload_n 0, 1) := by decide +kernel
theorem dX9_takesE_238 : decode cX9_takesE 238 = .ok (.invokevirtual 275, 3) := by decide +kernel
theorem dX9_takesE_241 : decode cX9_takesE 241 = .ok (.istore 4, 2) := by decide +kernel
theorem dX9_takesE_243 : decode cX9_takesE 243 = .ok (.iload 4, 2) := by decide +kernel
theorem dX9_takesE_245 : decode cX9_takesE 245 = .ok (.ifCond .eq 21, 3) := by decide +kernel
theorem dX9_takesE_248 : decode cX9_takesE 248 = .ok (.iload 4, 2) := by decide +kernel
theorem dX9_takesE_250 : decode cX9_takesE 250 = .ok (.invokestatic 254, 3) := by decide +kernel
theorem dX9_takesE_253 : decode cX9_takesE 253 = .ok (.iconst 3, 1) := by decide +kernel
theorem dX9_takesE_254 : decode cX9_takesE 254 = .ok (.if_icmp .ne 14, 3) := by decide +kernel
theorem dX9_takesE_257 : decode cX9_takesE 257 = .ok (.aload_n 0, 1) := by decide +kernel
theorem dX9_takesE_258 : decode cX9_takesE 258 = .ok (.getfield 41, 3) := by decide +kernel
theorem dX9_takesE_261 : decode cX9_takesE 261 = .ok (.iload_n 1, 1) := by decide +kernel
theorem dX9_takesE_262 : decode cX9_takesE 262 = .ok (.baload, 1) := by decide +kernel
theorem dX9_takesE_263 : decode cX9_takesE 263 = .ok (.ifCond .eq 5, 3) := by decide +kernel
theorem dX9_takesE_266 : decode cX9_takesE 266 = .ok (.iconst 0, 1) := by decide +kernel
theorem dX9_takesE_267 : decode cX9_takesE 267 = .ok (.ireturn, 1) := by decide +kernel
theorem dX9_takesE_268 : decode cX9_takesE 268 = .ok (.aload_n 0, 1) := by decide +kernel
theorem dX9_takesE_269 : decode cX9_takesE 269 = .ok (.getfield 41, 3) := by decide +kernel
theorem dX9_takesE_272 : decode cX9_takesE 272 = .ok (.iload_n 1, 1) := by decide +kernel
theorem dX9_takesE_273 : decode cX9_takesE 273 = .ok (.iload 4, 2) := by decide +kernel
theorem dX9_takesE_275 : decode cX9_takesE 275 = .ok (.invokestatic 254, 3) := by decide +kernel
theorem dX9_takesE_278 : decode cX9_takesE 278 = .ok (.iconst 3, 1) := by decide +kernel
theorem dX9_takesE_279 : decode cX9_takesE 279 = .ok (.if_icmp .eq 21, 3) := by decide +kernel
theorem dX9_takesE_282 : decode cX9_takesE 282 = .ok (.iload 4, 2) := by decide +kernel
theorem dX9_takesE_284 : decode cX9_takesE 284 = .ok (.invokestatic 254, 3) := by decide +kernel
theorem dX9_takesE_287 : decode cX9_takesE 287 = .ok (.iconst 3, 1) := by decide +kernel
theorem dX9_takesE_288 : decode cX9_takesE 288 = .ok (.if_icmp .le 16, 3) := by decide +kernel
theorem dX9_takesE_291 : decode cX9_takesE 291 = .ok (.aload_n 0, 1) := by decide +kernel
theorem dX9_takesE_292 : decode cX9_takesE 292 = .ok (.getfield 41, 3) := by decide +kernel
theorem dX9_takesE_295 : decode cX9_takesE 295 = .ok (.iload_n 1, 1) := by decide +kernel
theorem dX9_takesE_296 : decode cX9_takesE 296 = .ok (.baload, 1) := by decide +kernel
theorem dX9_takesE_297 : decode cX9_takesE 297 = .ok (.ifCond .eq 7, 3) := by decide +kernel
theorem dX9_takesE_300 : decode cX9_takesE 300 = .ok (.iconst 1, 1) := by decide +kernel
theorem dX9_takesE_301 : decode cX9_takesE 301 = .ok (.goto 4, 3) := by decide +kernel
theorem dX9_takesE_304 : decode cX9_takesE 304 = .ok (.iconst 0, 1) := by decide +kernel
theorem dX9_takesE_305 : decode cX9_takesE 305 = .ok (.bastore, 1) := by decide +kernel
theorem dX9_takesE_306 : decode cX9_takesE 306 = .ok (.aload_n 0, 1) := by decide +kernel
theorem dX9_takesE_307 : decode cX9_takesE 307 = .ok (.iload 4, 2) := by decide +kernel
theorem dX9_takesE_309 : decode cX9_takesE 309 = .ok (.invokestatic 254, 3) := by decide +kernel
theorem dX9_takesE_312 : decode cX9_takesE 312 = .ok (.invokevirtual 266, 3) := by decide +kernel
theorem dX9_takesE_315 : decode cX9_takesE 315 = .ok (.aload_n 0, 1) := by decide +kernel
theorem dX9_takesE_316 : decode cX9_takesE 316 = .ok (.getfield 38, 3) := by decide +kernel
theorem dX9_takesE_319 : decode cX9_takesE 319 = .ok (.aload_n 0, 1) := by decide +kernel
theorem dX9_takesE_320 : decode cX9_takesE 320 = .ok (.getfield 251, 3) := by decide +kernel
theorem dX9_takesE_323 : decode cX9_takesE 323 = .ok (.iload 4, 2) := by decide +kernel
theorem dX9_takesE_325 : decode cX9_takesE 325 = .ok (.iastore, 1) := by decide +kernel
theorem dX9_takesE_326 : decode cX9_takesE 326 = .ok (.aload_n 0, 1) := by decide +kernel
theorem dX9_takesE_327 : decode cX9_takesE 327 = .ok (.dup, 1) := by decide +kernel
theorem dX9_takesE_328 : decode cX9_takesE 328 = .ok (.getfield 251, 3) := by decide +kernel
theorem dX9_takesE_331 : decode cX9_takesE 331 = .ok (.iconst 1, 1) := by decide +kernel
theorem dX9_takesE_332 : decode cX9_takesE 332 = .ok (.iadd, 1) := by decide +kernel
theorem dX9_takesE_333 : decode cX9_takesE 333 = .ok (.putfield 251, 3) := by decide +kernel
theorem dX9_takesE_336 : decode cX9_takesE 336 = .ok (.iconst 1, 1) := by decide +kernel
theorem dX9_takesE_337 : decode cX9_takesE 337 = .ok (.istore_n 3, 1) := by decide +kernel
theorem dX9_takesE_338 : decode cX9_takesE 338 = .ok (.aload_n 0, 1) := by decide +kernel
theorem dX9_takesE_339 : decode cX9_takesE 339 = .ok (.invokevirtual 248, 3) := by decide +kernel
theorem dX9_takesE_342 : decode cX9_takesE 342 = .ok (.goto (-314), 3) := by decide +kernel
theorem dX9_takesE_345 : decode cX9_takesE 345 = .ok (.aload_n 0, 1) := by decide +kernel
theorem dX9_takesE_346 : decode cX9_takesE 346 = .ok (.iconst 0, 1) := by decide +kernel
theorem dX9_takesE_347 : decode cX9_takesE 347 = .ok (.invokevirtual 266, 3) := by decide +kernel
theorem dX9_takesE_350 : decode cX9_takesE 350 = .ok (.iload_n 1, 1) := by decide +kernel
theorem dX9_takesE_351 : decode cX9_takesE 351 = .ok (.ifCond .ne 7, 3) := by decide +kernel
theorem dX9_takesE_354 : decode cX9_takesE 354 = .ok (.iconst 1, 1) := by decide +kernel
theorem dX9_takesE_355 : decode cX9_takesE 355 = .ok (.goto 4, 3) := by decide +kernel
theorem dX9_takesE_358 : decode cX9_takesE 358 = .ok (.iconst 0, 1) := by decide +kernel
theorem dX9_takesE_359 : decode cX9_takesE 359 = .ok (.ireturn, 1) := by decide +kernel
theorem dX9_notsOpen_0 : decode cX9_notsOpen 0 = .ok (.iconst 0, 1) := by decide +kernel
theorem dX9_notsOpen_1 : decode cX9_notsOpen 1 = .ok (.istore_n 1, 1) := by decide +kernel
theorem dX9_notsOpen_2 : decode cX9_notsOpen 2 = .ok (.iconst 0, 1) := by decide +kernel
theorem dX9_notsOpen_3 : decode cX9_notsOpen 3 = .ok (.istore_n 2, 1) := by decide +kernel
theorem dX9_notsOpen_4 : decode cX9_notsOpen 4 = .ok (.iload_n 2, 1) := by decide +kernel
theorem dX9_notsOpen_5 : decode cX9_notsOpen 5 = .ok (.aload_n 0, 1) := by decide +kernel
theorem dX9_notsOpen_6 : decode cX9_notsOpen 6 = .ok (.getfield 251, 3) := by decide +kernel
theorem dX9_notsOpen_9 : decode cX9_notsOpen 9 = .ok (.if_icmp .ge 28, 3) := by decide +kernel
theorem dX9_notsOpen_12 : decode cX9_notsOpen 12 = .ok (.iload_n 1, 1) := by decide +kernel
theorem dX9_notsOpen_13 : decode cX9_notsOpen 13 = .ok (.aload_n 0, 1) := by decide +kernel
theorem dX9_notsOpen_14 : decode cX9_notsOpen 14 = .ok (.getfield 38, 3) := by decide +kernel
theorem dX9_notsOpen_17 : decode cX9_notsOpen 17 = .ok (.iload_n 2, 1) := by decide +kernel
theorem dX9_notsOpen_18 : decode cX9_notsOpen 18 = .ok (.iaload, 1) := by decide +kernel
theorem dX9_notsOpen_19 : decode cX9_notsOpen 19 = .ok (.bipush (-10), 2) := by decide +kernel
theorem dX9_notsOpen_21 : decode cX9_notsOpen 21 = .ok (.if_icmp .ne 7, 3) := by decide +kernel
theorem dX9_notsOpen_24 : decode cX9_notsOpen 24 = .ok (.iconst 1, 1) := by decide +kernel
theorem dX9_notsOpen_25 : decode cX9_notsOpen 25 = .ok (.goto 4, 3) := by decide +kernel
theorem dX9_notsOpen_28 : decode cX9_notsOpen 28 = .ok (.iconst 0, 1) := by decide +kernel
theorem dX9_notsOpen_29 : decode cX9_notsOpen 29 = .ok (.iadd, 1) := by decide +kernel
theorem dX9_notsOpen_30 : decode cX9_notsOpen 30 = .ok (.istore_n 1, 1) := by decide +kernel
theorem dX9_notsOpen_31 : decode cX9_notsOpen 31 = .ok (.iinc 2 1, 3) := by decide +kernel
theorem dX9_notsOpen_34 : decode cX9_notsOpen 34 = .ok (.goto (-30), 3) := by decide +kernel
theorem dX9_notsOpen_37 : decode cX9_notsOpen 37 = .ok (.iload_n 1, 1) := by decide +kernel
theorem dX9_notsOpen_38 : decode cX9_notsOpen 38 = .ok (.ireturn, 1) := by decide +kernel
theorem dX9_text_0 : decode cX9_text 0 = .ok (.aload_n 0, 1) := by decide +kernel
theorem dX9_text_1 : decode cX9_text 1 = .ok (.iconst 0, 1) := by decide +kernel
theorem dX9_text_2 : decode cX9_text 2 = .ok (.putfield 224, 3) := by decide +kernel
theorem dX9_text_5 : decode cX9_text 5 = .ok (.aload_n 0, 1) := by decide +kernel
theorem dX9_text_6 : decode cX9_text 6 = .ok (.iconst (-1), 1) := by decide +kernel
theorem dX9_text_7 : decode cX9_text 7 = .ok (.putfield 230, 3) := by decide +kernel
theorem dX9_text_10 : decode cX9_text 10 = .ok (.aload_n 0, 1) := by decide +kernel
theorem dX9_text_11 : decode cX9_text 11 = .ok (.invokevirtual 248, 3) := by decide +kernel
theorem dX9_text_14 : decode cX9_text 14 = .ok (.aload_n 0, 1) := by decide +kernel
theorem dX9_text_15 : decode cX9_text 15 = .ok (.invokevirtual 278, 3) := by decide +kernel
theorem dX9_text_18 : decode cX9_text 18 = .ok (.ifCond .eq 14, 3) := by decide +kernel
theorem dX9_text_21 : decode cX9_text 21 = .ok (.aload_n 0, 1) := by decide +kernel
theorem dX9_text_22 : decode cX9_text 22 = .ok (.invokevirtual 281, 3) := by decide +kernel
theorem dX9_text_25 : decode cX9_text 25 = .ok (.ifCond .eq 7, 3) := by decide +kernel
theorem dX9_text_28 : decode cX9_text 28 = .ok (.iconst 1, 1) := by decide +kernel
theorem dX9_text_29 : decode cX9_text 29 = .ok (.goto 4, 3) := by decide +kernel
theorem dX9_text_32 : decode cX9_text 32 = .ok (.iconst 0, 1) := by decide +kernel
theorem dX9_text_33 : decode cX9_text 33 = .ok (.istore_n 1, 1) := by decide +kernel
theorem dX9_text_34 : decode cX9_text 34 = .ok (.aload_n 0, 1) := by decide +kernel
theorem dX9_text_35 : decode cX9_text 35 = .ok (.iconst 0, 1) := by decide +kernel
theorem dX9_text_36 : decode cX9_text 36 = .ok (.putfield 221, 3) := by decide +kernel
theorem dX9_text_39 : decode cX9_text 39 = .ok (.iload_n 1, 1) := by decide +kernel
theorem dX9_text_40 : decode cX9_text 40 = .ok (.ifCond .ne 11, 3) := by decide +kernel
theorem dX9_text_43 : decode cX9_text 43 = .ok (.bipush (-100), 2) := by decide +kernel
theorem dX9_text_45 : decode cX9_text 45 = .ok (.aload_n 0, 1) := by decide +kernel
theorem dX9_text_46 : decode cX9_text 46 = .ok (.getfield 227, 3) := by decide +kernel
theorem dX9_text_49 : decode cX9_text 49 = .ok (.isub, 1) := by decide +kernel
theorem dX9_text_50 : decode cX9_text 50 = .ok (.ireturn, 1) := by decide +kernel
theorem dX9_text_51 : decode cX9_text 51 = .ok (.aload_n 0, 1) := by decide +kernel
theorem dX9_text_52 : decode cX9_text 52 = .ok (.getfield 9, 3) := by decide +kernel
theorem dX9_text_55 : decode cX9_text 55 = .ok (.bipush 11, 2) := by decide +kernel
theorem dX9_text_57 : decode cX9_text 57 = .ok (.iaload, 1) := by decide +kernel
theorem dX9_text_58 : decode cX9_text 58 = .ok (.bipush 14, 2) := by decide +kernel
theorem dX9_text_60 : decode cX9_text 60 = .ok (.if_icmp .ne 6, 3) := by decide +kernel
theorem dX9_text_63 : decode cX9_text 63 = .ok (.ldc 126, 2) := by decide +kernel
theorem dX9_text_65 : decode cX9_text 65 = .ok (.ireturn, 1) := by decide +kernel
theorem dX9_text_66 : decode cX9_text 66 = .ok (.aload_n 0, 1) := by decide +kernel
theorem dX9_text_67 : decode cX9_text 67 = .ok (.getfield 9, 3) := by decide +kernel
theorem dX9_text_70 : decode cX9_text 70 = .ok (.bipush 11, 2) := by decide +kernel
theorem dX9_text_72 : decode cX9_text 72 = .ok (.iaload, 1) := by decide +kernel
theorem dX9_text_73 : decode cX9_text 73 = .ok (.istore_n 2, 1) := by decide +kernel
theorem dX9_text_74 : decode cX9_text 74 = .ok (.aload_n 0, 1) := by decide +kernel
theorem dX9_text_75 : decode cX9_text 75 = .ok (.getfield 9, 3) := by decide +kernel
theorem dX9_text_78 : decode cX9_text 78 = .ok (.bipush 72, 2) := by decide +kernel
theorem dX9_text_80 : decode cX9_text 80 = .ok (.iconst 2, 1) := by decide +kernel
theorem dX9_text_81 : decode cX9_text 81 = .ok (.iload_n 2, 1) := by decide +kernel
theorem dX9_text_82 : decode cX9_text 82 = .ok (.imul, 1) := by decide +kernel
theorem dX9_text_83 : decode cX9_text 83 = .ok (.iadd, 1) := by decide +kernel
theorem dX9_text_84 : decode cX9_text 84 = .ok (.sipush 1000, 3) := by decide +kernel
theorem dX9_text_87 : decode cX9_text 87 = .ok (.aload_n 0, 1) := by decide +kernel
theorem dX9_text_88 : decode cX9_text 88 = .ok (.getfield 245, 3) := by decide +kernel
theorem dX9_text_91 : decode cX9_text 91 = .ok (.imul, 1) := by decide +kernel
theorem dX9_text_92 : decode cX9_text 92 = .ok (.aload_n 0, 1) := by decide +kernel
theorem dX9_text_93 : decode cX9_text 93 = .ok (.getfield 257, 3) := by decide +kernel
theorem dX9_text_96 : decode cX9_text 96 = .ok (.iadd, 1) := by decide +kernel
theorem dX9_text_97 : decode cX9_text 97 = .ok (.iastore, 1) := by decide +kernel
theorem dX9_text_98 : decode cX9_text 98 = .ok (.aload_n 0, 1) := by decide +kernel
theorem dX9_text_99 : decode cX9_text 99 = .ok (.getfield 9, 3) := by decide +kernel
theorem dX9_text_102 : decode cX9_text 102 = .ok (.bipush 72, 2) := by decide +kernel
theorem dX9_text_104 : decode cX9_text 104 = .ok (.iconst 2, 1) := by decide +kernel
theorem dX9_text_105 : decode cX9_text 105 = .ok (.iload_n 2, 1) := by decide +kernel
theorem dX9_text_106 : decode cX9_text 106 = .ok (.imul, 1) := by decide +kernel
theorem dX9_text_107 : decode cX9_text 107 = .ok (.iadd, 1) := by decide +kernel
theorem dX9_text_108 : decode cX9_text 108 = .ok (.iconst 1, 1) := by decide +kernel
theorem dX9_text_109 : decode cX9_text 109 = .ok (.iadd, 1) := by decide +kernel
theorem dX9_text_110 : decode cX9_text 110 = .ok (.aload_n 0, 1) := by decide +kernel
theorem dX9_text_111 : decode cX9_text 111 = .ok (.getfield 263, 3) := by decide +kernel
theorem dX9_text_114 : decode cX9_text 114 = .ok (.iastore, 1) := by decide +kernel
theorem dX9_text_115 : decode cX9_text 115 = .ok (.iconst 0, 1) := by decide +kernel
theorem dX9_text_116 : decode cX9_text 116 = .ok (.istore_n 3, 1) := by decide +kernel
theorem dX9_text_117 : decode cX9_text 117 = .ok (.iload_n 3, 1) := by decide +kernel
theorem dX9_text_118 : decode cX9_text 118 = .ok (.aload_n 0, 1) := by decide +kernel
theorem dX9_text_119 : decode cX9_text 119 = .ok (.getfield 257, 3) := by decide +kernel
theorem dX9_text_122 : decode cX9_text 122 = .ok (.if_icmp .ge 29, 3) := by decide +kernel
theorem dX9_text_125 : decode cX9_text 125 = .ok (.aload_n 0, 1) := by decide +kernel
theorem dX9_text_126 : decode cX9_text 126 = .ok (.getfield 9, 3) := by decide +kernel
theorem dX9_text_129 : decode cX9_text 129 = .ok (.bipush 100, 2) := by decide +kernel
theorem dX9_text_131 : decode cX9_text 131 = .ok (.bipush 96, 2) := by decide +kernel
theorem dX9_text_133 : decode cX9_text 133 = .ok (.iload_n 2, 1) := by decide +kernel
theorem dX9_text_134 : decode cX9_text 134 = .ok (.imul, 1) := by decide +kernel
theorem dX9_text_135 : decode cX9_text 135 = .ok (.iadd, 1) := by decide +kernel
theorem dX9_text_136 : decode cX9_text 136 = .ok (.iload_n 3, 1) := by decide +kernel
theorem dX9_text_137 : decode cX9_text 137 = .ok (.iadd, 1) := by decide +kernel
theorem dX9_text_138 : decode cX9_text 138 = .ok (.aload_n 0, 1) := by decide +kernel
theorem dX9_text_139 : decode cX9_text 139 = .ok (.getfield 35, 3) := by decide +kernel
theorem dX9_text_142 : decode cX9_text 142 = .ok (.iload_n 3, 1) := by decide +kernel
theorem dX9_text_143 : decode cX9_text 143 = .ok (.iaload, 1) := by decide +kernel
theorem dX9_text_144 : decode cX9_text 144 = .ok (.iastore, 1) := by decide +kernel
theorem dX9_text_145 : decode cX9_text 145 = .ok (.iinc 3 1, 3) := by decide +kernel
theorem dX9_text_148 : decode cX9_text 148 = .ok (.goto (-31), 3) := by decide +kernel
theorem dX9_text_151 : decode cX9_text 151 = .ok (.aload_n 0, 1) := by decide +kernel
theorem dX9_text_152 : decode cX9_text 152 = .ok (.getfield 9, 3) := by decide +kernel
theorem dX9_text_155 : decode cX9_text 155 = .ok (.bipush 11, 2) := by decide +kernel
theorem dX9_text_157 : decode cX9_text 157 = .ok (.dup2, 1) := by decide +kernel
theorem dX9_text_158 : decode cX9_text 158 = .ok (.iaload, 1) := by decide +kernel
theorem dX9_text_159 : decode cX9_text 159 = .ok (.iconst 1, 1) := by decide +kernel
theorem dX9_text_160 : decode cX9_text 160 = .ok (.iadd, 1) := by decide +kernel
theorem dX9_text_161 : decode cX9_text 161 = .ok (.iastore, 1) := by decide +kernel
theorem dX9_text_162 : decode cX9_text 162 = .ok (.iload_n 2, 1) := by decide +kernel
theorem dX9_text_163 : decode cX9_text 163 = .ok (.ireturn, 1) := by decide +kernel
theorem dX9_textTold_0 : decode cX9_textTold 0 = .ok (.iload_n 1, 1) := by decide +kernel
theorem dX9_textTold_1 : decode cX9_textTold 1 = .ok (.iconst 0, 1) := by decide +kernel
theorem dX9_textTold_2 : decode cX9_textTold 2 = .ok (.aload_n 0, 1) := by decide +kernel
theorem dX9_textTold_3 : decode cX9_textTold 3 = .ok (.getfield 9, 3) := by decide +kernel
theorem dX9_textTold_6 : decode cX9_textTold 6 = .ok (.bipush 11, 2) := by decide +kernel
theorem dX9_textTold_8 : decode cX9_textTold 8 = .ok (.iaload, 1) := by decide +kernel
theorem dX9_textTold_9 : decode cX9_textTold 9 = .ok (.iconst 1, 1) := by decide +kernel
theorem dX9_textTold_10 : decode cX9_textTold 10 = .ok (.isub, 1) := by decide +kernel
theorem dX9_textTold_11 : decode cX9_textTold 11 = .ok (.invokestatic 79, 3) := by decide +kernel
theorem dX9_textTold_14 : decode cX9_textTold 14 = .ok (.ifCond .eq 12, 3) := by decide +kernel
theorem dX9_textTold_17 : decode cX9_textTold 17 = .ok (.iload_n 2, 1) := by decide +kernel
theorem dX9_textTold_18 : decode cX9_textTold 18 = .ok (.iconst 0, 1) := by decide +kernel
theorem dX9_textTold_19 : decode cX9_textTold 19 = .ok (.iconst 1, 1) := by decide +kernel
theorem dX9_textTold_20 : decode cX9_textTold 20 = .ok (.invokestatic 79, 3) := by decide +kernel
theorem dX9_textTold_23 : decode cX9_textTold 23 = .ok (.ifCond .ne 6, 3) := by decide +kernel
theorem dX9_textTold_26 : decode cX9_textTold 26 = .ok (.ldc 118, 2) := by decide +kernel
theorem dX9_textTold_28 : decode cX9_textTold 28 = .ok (.ireturn, 1) := by decide +kernel
theorem dX9_textTold_29 : decode cX9_textTold 29 = .ok (.iload_n 2, 1) := by decide +kernel
theorem dX9_textTold_30 : decode cX9_textTold 30 = .ok (.ifCond .ne 21, 3) := by decide +kernel
theorem dX9_textTold_33 : decode cX9_textTold 33 = .ok (.aload_n 0, 1) := by decide +kernel
theorem dX9_textTold_34 : decode cX9_textTold 34 = .ok (.getfield 9, 3) := by decide +kernel
theorem dX9_textTold_37 : decode cX9_textTold 37 = .ok (.bipush 72, 2) := by decide +kernel
theorem dX9_textTold_39 : decode cX9_textTold 39 = .ok (.iconst 2, 1) := by decide +kernel
theorem dX9_textTold_40 : decode cX9_textTold 40 = .ok (.iload_n 1, 1) := by decide +kernel
theorem dX9_textTold_41 : decode cX9_textTold 41 = .ok (.imul, 1) := by decide +kernel
theorem dX9_textTold_42 : decode cX9_textTold 42 = .ok (.iadd, 1) := by decide +kernel
theorem dX9_textTold_43 : decode cX9_textTold 43 = .ok (.iaload, 1) := by decide +kernel
theorem dX9_textTold_44 : decode cX9_textTold 44 = .ok (.sipush 1000, 3) := by decide +kernel
theorem dX9_textTold_47 : decode cX9_textTold 47 = .ok (.idiv, 1) := by decide +kernel
theorem dX9_textTold_48 : decode cX9_textTold 48 = .ok (.goto 16, 3) := by decide +kernel
theorem dX9_textTold_51 : decode cX9_textTold 51 = .ok (.aload_n 0, 1) := by decide +kernel
theorem dX9_textTold_52 : decode cX9_textTold 52 = .ok (.getfield 9, 3) := by decide +kernel
theorem dX9_textTold_55 : decode cX9_textTold 55 = .ok (.bipush 72, 2) := by decide +kernel
theorem dX9_textTold_57 : decode cX9_textTold 57 = .ok (.iconst 2, 1) := by decide +kernel
theorem dX9_textTold_58 : decode cX9_textTold 58 = .ok (.iload_n 1, 1) := by decide +kernel
theorem dX9_textTold_59 : decode cX9_textTold 59 = .ok (.imul, 1) := by decide +kernel
theorem dX9_textTold_60 : decode cX9_textTold 60 = .ok (.iadd, 1) := by decide +kernel
theorem dX9_textTold_61 : decode cX9_textTold 61 = .ok (.iconst 1, 1) := by decide +kernel
theorem dX9_textTold_62 : decode cX9_textTold 62 = .ok (.iadd, 1) := by decide +kernel
theorem dX9_textTold_63 : decode cX9_textTold 63 = .ok (.iaload, 1) := by decide +kernel
theorem dX9_textTold_64 : decode cX9_textTold 64 = .ok (.ireturn, 1) := by decide +kernel
theorem dX9_counts_0 : decode cX9_counts 0 = .ok (.aload_n 0, 1) := by decide +kernel
theorem dX9_counts_1 : decode cX9_counts 1 = .ok (.getfield 9, 3) := by decide +kernel
theorem dX9_counts_4 : decode cX9_counts 4 = .ok (.bipush 11, 2) := by decide +kernel
theorem dX9_counts_6 : decode cX9_counts 6 = .ok (.iaload, 1) := by decide +kernel
theorem dX9_counts_7 : decode cX9_counts 7 = .ok (.iconst 1, 1) := by decide +kernel
theorem dX9_counts_8 : decode cX9_counts 8 = .ok (.isub, 1) := by decide +kernel
theorem dX9_counts_9 : decode cX9_counts 9 = .ok (.istore_n 2, 1) := by decide +kernel
theorem dX9_counts_10 : decode cX9_counts 10 = .ok (.iload_n 2, 1) := by decide +kernel
theorem dX9_counts_11 : decode cX9_counts 11 = .ok (.ifCond .lt 30, 3) := by decide +kernel
theorem dX9_counts_14 : decode cX9_counts 14 = .ok (.aload_n 0, 1) := by decide +kernel
theorem dX9_counts_15 : decode cX9_counts 15 = .ok (.getfield 9, 3) := by decide +kernel
theorem dX9_counts_18 : decode cX9_counts 18 = .ok (.bipush 72, 2) := by decide +kernel
theorem dX9_counts_20 : decode cX9_counts 20 = .ok (.iconst 2, 1) := by decide +kernel
theorem dX9_counts_21 : decode cX9_counts 21 = .ok (.iload_n 2, 1) := by decide +kernel
theorem dX9_counts_22 : decode cX9_counts 22 = .ok (.imul, 1) := by decide +kernel
theorem dX9_counts_23 : decode cX9_counts 23 = .ok (.iadd, 1) := by decide +kernel
theorem dX9_counts_24 : decode cX9_counts 24 = .ok (.iaload, 1) := by decide +kernel
theorem dX9_counts_25 : decode cX9_counts 25 = .ok (.sipush 1000, 3) := by decide +kernel
theorem dX9_counts_28 : decode cX9_counts 28 = .ok (.idiv, 1) := by decide +kernel
theorem dX9_counts_29 : decode cX9_counts 29 = .ok (.iload_n 1, 1) := by decide +kernel
theorem dX9_counts_30 : decode cX9_counts 30 = .ok (.if_icmp .ne 5, 3) := by decide +kernel
theorem dX9_counts_33 : decode cX9_counts 33 = .ok (.iload_n 2, 1) := by decide +kernel
theorem dX9_counts_34 : decode cX9_counts 34 = .ok (.ireturn, 1) := by decide +kernel
theorem dX9_counts_35 : decode cX9_counts 35 = .ok (.iinc 2 (-1), 3) := by decide +kernel
theorem dX9_counts_38 : decode cX9_counts 38 = .ok (.goto (-28), 3) := by decide +kernel
theorem dX9_counts_41 : decode cX9_counts 41 = .ok (.iconst (-1), 1) := by decide +kernel
theorem dX9_counts_42 : decode cX9_counts 42 = .ok (.ireturn, 1) := by decide +kernel
theorem dX9_why_0 : decode cX9_why 0 = .ok (.iload_n 1, 1) := by decide +kernel
theorem dX9_why_1 : decode cX9_why 1 = .ok (.iconst 0, 1) := by decide +kernel
theorem dX9_why_2 : decode cX9_why 2 = .ok (.iconst 2, 1) := by decide +kernel
theorem dX9_why_3 : decode cX9_why 3 = .ok (.invokestatic 79, 3) := by decide +kernel
theorem dX9_why_6 : decode cX9_why 6 = .ok (.ifCond .ne 6, 3) := by decide +kernel
theorem dX9_why_9 : decode cX9_why 9 = .ok (.ldc 118, 2) := by decide +kernel
theorem dX9_why_11 : decode cX9_why 11 = .ok (.ireturn, 1) := by decide +kernel
theorem dX9_why_12 : decode cX9_why 12 = .ok (.aload_n 0, 1) := by decide +kernel
theorem dX9_why_13 : decode cX9_why 13 = .ok (.iload_n 1, 1) := by decide +kernel
theorem dX9_why_14 : decode cX9_why 14 = .ok (.invokevirtual 147, 3) := by decide +kernel
theorem dX9_why_17 : decode cX9_why 17 = .ok (.istore_n 2, 1) := by decide +kernel
theorem dX9_why_18 : decode cX9_why 18 = .ok (.iload_n 2, 1) := by decide +kernel
theorem dX9_why_19 : decode cX9_why 19 = .ok (.ifCond .ge 8, 3) := by decide +kernel
theorem dX9_why_22 : decode cX9_why 22 = .ok (.ldc 78, 2) := by decide +kernel
theorem dX9_why_24 : decode cX9_why 24 = .ok (.goto 4, 3) := by decide +kernel
theorem dX9_why_27 : decode cX9_why 27 = .ok (.iload_n 2, 1) := by decide +kernel
theorem dX9_why_28 : decode cX9_why 28 = .ok (.ireturn, 1) := by decide +kernel
theorem dX9_two_0 : decode cX9_two 0 = .ok (.iload_n 0, 1) := by decide +kernel
theorem dX9_two_1 : decode cX9_two 1 = .ok (.tableswitch 120 (-8) (-1) #[116, 112, 108, 97, 86, 75, 61, 47], 47) := by decide +kernel
theorem dX9_two_48 : decode cX9_two 48 = .ok (.iload_n 1, 1) := by decide +kernel
theorem dX9_two_49 : decode cX9_two 49 = .ok (.ifCond .ne 7, 3) := by decide +kernel
theorem dX9_two_52 : decode cX9_two 52 = .ok (.iload_n 2, 1) := by decide +kernel
theorem dX9_two_53 : decode cX9_two 53 = .ok (.ifCond .eq 7, 3) := by decide +kernel
theorem dX9_two_56 : decode cX9_two 56 = .ok (.iconst 1, 1) := by decide +kernel
theorem dX9_two_57 : decode cX9_two 57 = .ok (.goto 4, 3) := by decide +kernel
theorem dX9_two_60 : decode cX9_two 60 = .ok (.iconst 0, 1) := by decide +kernel
theorem dX9_two_61 : decode cX9_two 61 = .ok (.ireturn, 1) := by decide +kernel
theorem dX9_two_62 : decode cX9_two 62 = .ok (.iload_n 1, 1) := by decide +kernel
theorem dX9_two_63 : decode cX9_two 63 = .ok (.ifCond .eq 11, 3) := by decide +kernel
theorem dX9_two_66 : decode cX9_two 66 = .ok (.iload_n 2, 1) := by decide +kernel
theorem dX9_two_67 : decode cX9_two 67 = .ok (.ifCond .eq 7, 3) := by decide +kernel
theorem dX9_two_70 : decode cX9_two 70 = .ok (.iconst 1, 1) := by decide +kernel
theorem dX9_two_71 : decode cX9_two 71 = .ok (.goto 4, 3) := by decide +kernel
theorem dX9_two_74 : decode cX9_two 74 = .ok (.iconst 0, 1) := by decide +kernel
theorem dX9_two_75 : decode cX9_two 75 = .ok (.ireturn, 1) := by decide +kernel
theorem dX9_two_76 : decode cX9_two 76 = .ok (.iload_n 1, 1) := by decide +kernel
theorem dX9_two_77 : decode cX9_two 77 = .ok (.iload_n 2, 1) := by decide +kernel
theorem dX9_two_78 : decode cX9_two 78 = .ok (.if_icmp .ge 7, 3) := by decide +kernel
theorem dX9_two_81 : decode cX9_two 81 = .ok (.iconst 1, 1) := by decide +kernel
theorem dX9_two_82 : decode cX9_two 82 = .ok (.goto 4, 3) := by decide +kernel
theorem dX9_two_85 : decode cX9_two 85 = .ok (.iconst 0, 1) := by decide +kernel
theorem dX9_two_86 : decode cX9_two 86 = .ok (.ireturn, 1) := by decide +kernel
theorem dX9_two_87 : decode cX9_two 87 = .ok (.iload_n 1, 1) := by decide +kernel
theorem dX9_two_88 : decode cX9_two 88 = .ok (.iload_n 2, 1) := by decide +kernel
theorem dX9_two_89 : decode cX9_two 89 = .ok (.if_icmp .ne 7, 3) := by decide +kernel
theorem dX9_two_92 : decode cX9_two 92 = .ok (.iconst 1, 1) := by decide +kernel
theorem dX9_two_93 : decode cX9_two 93 = .ok (.goto 4, 3) := by decide +kernel
theorem dX9_two_96 : decode cX9_two 96 = .ok (.iconst 0, 1) := by decide +kernel
theorem dX9_two_97 : decode cX9_two 97 = .ok (.ireturn, 1) := by decide +kernel
theorem dX9_two_98 : decode cX9_two 98 = .ok (.iload_n 1, 1) := by decide +kernel
theorem dX9_two_99 : decode cX9_two 99 = .ok (.iload_n 2, 1) := by decide +kernel
theorem dX9_two_100 : decode cX9_two 100 = .ok (.if_icmp .le 7, 3) := by decide +kernel
theorem dX9_two_103 : decode cX9_two 103 = .ok (.iconst 1, 1) := by decide +kernel
theorem dX9_two_104 : decode cX9_two 104 = .ok (.goto 4, 3) := by decide +kernel
theorem dX9_two_107 : decode cX9_two 107 = .ok (.iconst 0, 1) := by decide +kernel
theorem dX9_two_108 : decode cX9_two 108 = .ok (.ireturn, 1) := by decide +kernel
theorem dX9_two_109 : decode cX9_two 109 = .ok (.iload_n 1, 1) := by decide +kernel
theorem dX9_two_110 : decode cX9_two 110 = .ok (.iload_n 2, 1) := by decide +kernel
theorem dX9_two_111 : decode cX9_two 111 = .ok (.iadd, 1) := by decide +kernel
theorem dX9_two_112 : decode cX9_two 112 = .ok (.ireturn, 1) := by decide +kernel
theorem dX9_two_113 : decode cX9_two 113 = .ok (.iload_n 1, 1) := by decide +kernel
theorem dX9_two_114 : decode cX9_two 114 = .ok (.iload_n 2, 1) := by decide +kernel
theorem dX9_two_115 : decode cX9_two 115 = .ok (.isub, 1) := by decide +kernel
theorem dX9_two_116 : decode cX9_two 116 = .ok (.ireturn, 1) := by decide +kernel
theorem dX9_two_117 : decode cX9_two 117 = .ok (.iload_n 1, 1) := by decide +kernel
theorem dX9_two_118 : decode cX9_two 118 = .ok (.iload_n 2, 1) := by decide +kernel
theorem dX9_two_119 : decode cX9_two 119 = .ok (.imul, 1) := by decide +kernel
theorem dX9_two_120 : decode cX9_two 120 = .ok (.ireturn, 1) := by decide +kernel
theorem dX9_two_121 : decode cX9_two 121 = .ok (.iload_n 2, 1) := by decide +kernel
theorem dX9_two_122 : decode cX9_two 122 = .ok (.ifCond .ne 7, 3) := by decide +kernel
theorem dX9_two_125 : decode cX9_two 125 = .ok (.iconst 0, 1) := by decide +kernel
theorem dX9_two_126 : decode cX9_two 126 = .ok (.goto 6, 3) := by decide +kernel
theorem dX9_two_129 : decode cX9_two 129 = .ok (.iload_n 1, 1) := by decide +kernel
theorem dX9_two_130 : decode cX9_two 130 = .ok (.iload_n 2, 1) := by decide +kernel
theorem dX9_two_131 : decode cX9_two 131 = .ok (.idiv, 1) := by decide +kernel
theorem dX9_two_132 : decode cX9_two 132 = .ok (.ireturn, 1) := by decide +kernel
theorem dX9_worksOut_0 : decode cX9_worksOut 0 = .ok (.iconst 0, 1) := by decide +kernel
theorem dX9_worksOut_1 : decode cX9_worksOut 1 = .ok (.istore_n 2, 1) := by decide +kernel
theorem dX9_worksOut_2 : decode cX9_worksOut 2 = .ok (.aload_n 0, 1) := by decide +kernel
theorem dX9_worksOut_3 : decode cX9_worksOut 3 = .ok (.getfield 9, 3) := by decide +kernel
theorem dX9_worksOut_6 : decode cX9_worksOut 6 = .ok (.bipush 72, 2) := by decide +kernel
theorem dX9_worksOut_8 : decode cX9_worksOut 8 = .ok (.iconst 2, 1) := by decide +kernel
theorem dX9_worksOut_9 : decode cX9_worksOut 9 = .ok (.iload_n 1, 1) := by decide +kernel
theorem dX9_worksOut_10 : decode cX9_worksOut 10 = .ok (.imul, 1) := by decide +kernel
theorem dX9_worksOut_11 : decode cX9_worksOut 11 = .ok (.iadd, 1) := by decide +kernel
theorem dX9_worksOut_12 : decode cX9_worksOut 12 = .ok (.iaload, 1) := by decide +kernel
theorem dX9_worksOut_13 : decode cX9_worksOut 13 = .ok (.sipush 1000, 3) := by decide +kernel
theorem dX9_worksOut_16 : decode cX9_worksOut 16 = .ok (.irem, 1) := by decide +kernel
theorem dX9_worksOut_17 : decode cX9_worksOut 17 = .ok (.istore_n 3, 1) := by decide +kernel
theorem dX9_worksOut_18 : decode cX9_worksOut 18 = .ok (.iconst 0, 1) := by decide +kernel
theorem dX9_worksOut_19 : decode cX9_worksOut 19 = .ok (.istore 4, 2) := by decide +kernel
theorem dX9_worksOut_21 : decode cX9_worksOut 21 = .ok (.iload 4, 2) := by decide +kernel
theorem dX9_worksOut_23 : decode cX9_worksOut 23 = .ok (.iload_n 3, 1) := by decide +kernel
theorem dX9_worksOut_24 : decode cX9_worksOut 24 = .ok (.if_icmp .ge 131, 3) := by decide +kernel
theorem dX9_worksOut_27 : decode cX9_worksOut 27 = .ok (.aload_n 0, 1) := by decide +kernel
theorem dX9_worksOut_28 : decode cX9_worksOut 28 = .ok (.getfield 9, 3) := by decide +kernel
theorem dX9_worksOut_31 : decode cX9_worksOut 31 = .ok (.bipush 100, 2) := by decide +kernel
theorem dX9_worksOut_33 : decode cX9_worksOut 33 = .ok (.bipush 96, 2) := by decide +kernel
theorem dX9_worksOut_35 : decode cX9_worksOut 35 = .ok (.iload_n 1, 1) := by decide +kernel
theorem dX9_worksOut_36 : decode cX9_worksOut 36 = .ok (.imul, 1) := by decide +kernel
theorem dX9_worksOut_37 : decode cX9_worksOut 37 = .ok (.iadd, 1) := by decide +kernel
theorem dX9_worksOut_38 : decode cX9_worksOut 38 = .ok (.iload 4, 2) := by decide +kernel
theorem dX9_worksOut_40 : decode cX9_worksOut 40 = .ok (.iadd, 1) := by decide +kernel
theorem dX9_worksOut_41 : decode cX9_worksOut 41 = .ok (.iaload, 1) := by decide +kernel
theorem dX9_worksOut_42 : decode cX9_worksOut 42 = .ok (.istore 5, 2) := by decide +kernel
theorem dX9_worksOut_44 : decode cX9_worksOut 44 = .ok (.iload 5, 2) := by decide +kernel
theorem dX9_worksOut_46 : decode cX9_worksOut 46 = .ok (.ifCond .lt 39, 3) := by decide +kernel
theorem dX9_worksOut_49 : decode cX9_worksOut 49 = .ok (.aload_n 0, 1) := by decide +kernel
theorem dX9_worksOut_50 : decode cX9_worksOut 50 = .ok (.getfield 45, 3) := by decide +kernel
theorem dX9_worksOut_53 : decode cX9_worksOut 53 = .ok (.iload_n 2, 1) := by decide +kernel
theorem dX9_worksOut_54 : decode cX9_worksOut 54 = .ok (.iload 5, 2) := by decide +kernel
theorem dX9_worksOut_56 : decode cX9_worksOut 56 = .ok (.sipush 10000, 3) := by decide +kernel
theorem dX9_worksOut_59 : decode cX9_worksOut 59 = .ok (.if_icmp .ge 8, 3) := by decide +kernel
theorem dX9_worksOut_62 : decode cX9_worksOut 62 = .ok (.iload 5, 2) := by decide +kernel
theorem dX9_worksOut_64 : decode cX9_worksOut 64 = .ok (.goto 14, 3) := by decide +kernel
theorem dX9_worksOut_67 : decode cX9_worksOut 67 = .ok (.aload_n 0, 1) := by decide +kernel
theorem dX9_worksOut_68 : decode cX9_worksOut 68 = .ok (.getfield 48, 3) := by decide +kernel
theorem dX9_worksOut_71 : decode cX9_worksOut 71 = .ok (.iload 5, 2) := by decide +kernel
theorem dX9_worksOut_73 : decode cX9_worksOut 73 = .ok (.sipush 10000, 3) := by decide +kernel
theorem dX9_worksOut_76 : decode cX9_worksOut 76 = .ok (.isub, 1) := by decide +kernel
theorem dX9_worksOut_77 : decode cX9_worksOut 77 = .ok (.iaload, 1) := by decide +kernel
theorem dX9_worksOut_78 : decode cX9_worksOut 78 = .ok (.iastore, 1) := by decide +kernel
theorem dX9_worksOut_79 : decode cX9_worksOut 79 = .ok (.iinc 2 1, 3) := by decide +kernel
theorem dX9_worksOut_82 : decode cX9_worksOut 82 = .ok (.goto 67, 3) := by decide +kernel
theorem dX9_worksOut_85 : decode cX9_worksOut 85 = .ok (.iload 5, 2) := by decide +kernel
theorem dX9_worksOut_87 : decode cX9_worksOut 87 = .ok (.bipush (-10), 2) := by decide +kernel
theorem dX9_worksOut_89 : decode cX9_worksOut 89 = .ok (.if_icmp .ne 30, 3) := by decide +kernel
theorem dX9_worksOut_92 : decode cX9_worksOut 92 = .ok (.aload_n 0, 1) := by decide +kernel
theorem dX9_worksOut_93 : decode cX9_worksOut 93 = .ok (.getfield 45, 3) := by decide +kernel
theorem dX9_worksOut_96 : decode cX9_worksOut 96 = .ok (.iload_n 2, 1) := by decide +kernel
theorem dX9_worksOut_97 : decode cX9_worksOut 97 = .ok (.iconst 1, 1) := by decide +kernel
theorem dX9_worksOut_98 : decode cX9_worksOut 98 = .ok (.isub, 1) := by decide +kernel
theorem dX9_worksOut_99 : decode cX9_worksOut 99 = .ok (.aload_n 0, 1) := by decide +kernel
theorem dX9_worksOut_100 : decode cX9_worksOut 100 = .ok (.getfield 45, 3) := by decide +kernel
theorem dX9_worksOut_103 : decode cX9_worksOut 103 = .ok (.iload_n 2, 1) := by decide +kernel
theorem dX9_worksOut_104 : decode cX9_worksOut 104 = .ok (.iconst 1, 1) := by decide +kernel
theorem dX9_worksOut_105 : decode cX9_worksOut 105 = .ok (.isub, 1) := by decide +kernel
theorem dX9_worksOut_106 : decode cX9_worksOut 106 = .ok (.iaload, 1) := by decide +kernel
theorem dX9_worksOut_107 : decode cX9_worksOut 107 = .ok (.ifCond .ne 7, 3) := by decide +kernel
theorem dX9_worksOut_110 : decode cX9_worksOut 110 = .ok (.iconst 1, 1) := by decide +kernel
theorem dX9_worksOut_111 : decode cX9_worksOut 111 = .ok (.goto 4, 3) := by decide +kernel
theorem dX9_worksOut_114 : decode cX9_worksOut 114 = .ok (.iconst 0, 1) := by decide +kernel
theorem dX9_worksOut_115 : decode cX9_worksOut 115 = .ok (.iastore, 1) := by decide +kernel
theorem dX9_worksOut_116 : decode cX9_worksOut 116 = .ok (.goto 33, 3) := by decide +kernel
theorem dX9_worksOut_119 : decode cX9_worksOut 119 = .ok (.iinc 2 (-1), 3) := by decide +kernel
theorem dX9_worksOut_122 : decode cX9_worksOut 122 = .ok (.aload_n 0, 1) := by decide +kernel
theorem dX9_worksOut_123 : decode cX9_worksOut 123 = .ok (.getfield 45, 3) := by decide +kernel
theorem dX9_worksOut_126 : decode cX9_worksOut 126 = .ok (.iload_n 2, 1) := by decide +kernel
theorem dX9_worksOut_127 : decode cX9_worksOut 127 = .ok (.iconst 1, 1) := by decide +kernel
theorem dX9_worksOut_128 : decode cX9_worksOut 128 = .ok (.isub, 1) := by decide +kernel
theorem dX9_worksOut_129 : decode cX9_worksOut 129 = .ok (.iload 5, 2) := by decide +kernel
theorem dX9_worksOut_131 : decode cX9_worksOut 131 = .ok (.aload_n 0, 1) := by decide +kernel
theorem dX9_worksOut_132 : decode cX9_worksOut 132 = .ok (.getfield 45, 3) := by decide +kernel
theorem dX9_worksOut_135 : decode cX9_worksOut 135 = .ok (.iload_n 2, 1) := by decide +kernel
theorem dX9_worksOut_136 : decode cX9_worksOut 136 = .ok (.iconst 1, 1) := by decide +kernel
theorem dX9_worksOut_137 : decode cX9_worksOut 137 = .ok (.isub, 1) := by decide +kernel
theorem dX9_worksOut_138 : decode cX9_worksOut 138 = .ok (.iaload, 1) := by decide +kernel
theorem dX9_worksOut_139 : decode cX9_worksOut 139 = .ok (.aload_n 0, 1) := by decide +kernel
theorem dX9_worksOut_140 : decode cX9_worksOut 140 = .ok (.getfield 45, 3) := by decide +kernel
theorem dX9_worksOut_143 : decode cX9_worksOut 143 = .ok (.iload_n 2, 1) := by decide +kernel
theorem dX9_worksOut_144 : decode cX9_worksOut 144 = .ok (.iaload, 1) := by decide +kernel
theorem dX9_worksOut_145 : decode cX9_worksOut 145 = .ok (.invokestatic 284, 3) := by decide +kernel
theorem dX9_worksOut_148 : decode cX9_worksOut 148 = .ok (.iastore, 1) := by decide +kernel
theorem dX9_worksOut_149 : decode cX9_worksOut 149 = .ok (.iinc 4 1, 3) := by decide +kernel
theorem dX9_worksOut_152 : decode cX9_worksOut 152 = .ok (.goto (-131), 3) := by decide +kernel
theorem dX9_worksOut_155 : decode cX9_worksOut 155 = .ok (.aload_n 0, 1) := by decide +kernel
theorem dX9_worksOut_156 : decode cX9_worksOut 156 = .ok (.getfield 45, 3) := by decide +kernel
theorem dX9_worksOut_159 : decode cX9_worksOut 159 = .ok (.iconst 0, 1) := by decide +kernel
theorem dX9_worksOut_160 : decode cX9_worksOut 160 = .ok (.iaload, 1) := by decide +kernel
theorem dX9_worksOut_161 : decode cX9_worksOut 161 = .ok (.ireturn, 1) := by decide +kernel
theorem dX9_isSheet_0 : decode cX9_isSheet 0 = .ok (.iload_n 0, 1) := by decide +kernel
theorem dX9_isSheet_1 : decode cX9_isSheet 1 = .ok (.iconst 0, 1) := by decide +kernel
theorem dX9_isSheet_2 : decode cX9_isSheet 2 = .ok (.iconst 3, 1) := by decide +kernel
theorem dX9_isSheet_3 : decode cX9_isSheet 3 = .ok (.invokestatic 79, 3) := by decide +kernel
theorem dX9_isSheet_6 : decode cX9_isSheet 6 = .ok (.ireturn, 1) := by decide +kernel
theorem dX9_isSlot_0 : decode cX9_isSlot 0 = .ok (.iload_n 0, 1) := by decide +kernel
theorem dX9_isSlot_1 : decode cX9_isSlot 1 = .ok (.iconst 0, 1) := by decide +kernel
theorem dX9_isSlot_2 : decode cX9_isSlot 2 = .ok (.iconst 4, 1) := by decide +kernel
theorem dX9_isSlot_3 : decode cX9_isSlot 3 = .ok (.invokestatic 79, 3) := by decide +kernel
theorem dX9_isSlot_6 : decode cX9_isSlot 6 = .ok (.ireturn, 1) := by decide +kernel
theorem dX9_sheet_0 : decode cX9_sheet 0 = .ok (.iload_n 1, 1) := by decide +kernel
theorem dX9_sheet_1 : decode cX9_sheet 1 = .ok (.invokestatic 217, 3) := by decide +kernel
theorem dX9_sheet_4 : decode cX9_sheet 4 = .ok (.ifCond .eq 22, 3) := by decide +kernel
theorem dX9_sheet_7 : decode cX9_sheet 7 = .ok (.iload_n 2, 1) := by decide +kernel
theorem dX9_sheet_8 : decode cX9_sheet 8 = .ok (.iconst (-1), 1) := by decide +kernel
theorem dX9_sheet_9 : decode cX9_sheet 9 = .ok (.iconst 1, 1) := by decide +kernel
theorem dX9_sheet_10 : decode cX9_sheet 10 = .ok (.invokestatic 79, 3) := by decide +kernel
theorem dX9_sheet_13 : decode cX9_sheet 13 = .ok (.ifCond .eq 13, 3) := by decide +kernel
theorem dX9_sheet_16 : decode cX9_sheet 16 = .ok (.iload_n 2, 1) := by decide +kernel
theorem dX9_sheet_17 : decode cX9_sheet 17 = .ok (.ifCond .lt 12, 3) := by decide +kernel
theorem dX9_sheet_20 : decode cX9_sheet 20 = .ok (.iload_n 3, 1) := by decide +kernel
theorem dX9_sheet_21 : decode cX9_sheet 21 = .ok (.bipush 24, 2) := by decide +kernel
theorem dX9_sheet_23 : decode cX9_sheet 23 = .ok (.if_icmp .le 6, 3) := by decide +kernel
theorem dX9_sheet_26 : decode cX9_sheet 26 = .ok (.ldc 118, 2) := by decide +kernel
theorem dX9_sheet_28 : decode cX9_sheet 28 = .ok (.ireturn, 1) := by decide +kernel
theorem dX9_sheet_29 : decode cX9_sheet 29 = .ok (.iload_n 2, 1) := by decide +kernel
theorem dX9_sheet_30 : decode cX9_sheet 30 = .ok (.ifCond .lt 11, 3) := by decide +kernel
theorem dX9_sheet_33 : decode cX9_sheet 33 = .ok (.iload_n 3, 1) := by decide +kernel
theorem dX9_sheet_34 : decode cX9_sheet 34 = .ok (.ifCond .ge 7, 3) := by decide +kernel
theorem dX9_sheet_37 : decode cX9_sheet 37 = .ok (.ldc_w 287, 3) := by decide +kernel
theorem dX9_sheet_40 : decode cX9_sheet 40 = .ok (.ireturn, 1) := by decide +kernel
theorem dX9_sheet_41 : decode cX9_sheet 41 = .ok (.aload_n 0, 1) := by decide +kernel
theorem dX9_sheet_42 : decode cX9_sheet 42 = .ok (.getfield 51, 3) := by decide +kernel
theorem dX9_sheet_45 : decode cX9_sheet 45 = .ok (.iload_n 1, 1) := by decide +kernel
theorem dX9_sheet_46 : decode cX9_sheet 46 = .ok (.iload_n 2, 1) := by decide +kernel
theorem dX9_sheet_47 : decode cX9_sheet 47 = .ok (.iastore, 1) := by decide +kernel
theorem dX9_sheet_48 : decode cX9_sheet 48 = .ok (.aload_n 0, 1) := by decide +kernel
theorem dX9_sheet_49 : decode cX9_sheet 49 = .ok (.getfield 54, 3) := by decide +kernel
theorem dX9_sheet_52 : decode cX9_sheet 52 = .ok (.iload_n 1, 1) := by decide +kernel
theorem dX9_sheet_53 : decode cX9_sheet 53 = .ok (.iload_n 2, 1) := by decide +kernel
theorem dX9_sheet_54 : decode cX9_sheet 54 = .ok (.ifCond .ge 7, 3) := by decide +kernel
theorem dX9_sheet_57 : decode cX9_sheet 57 = .ok (.iconst 0, 1) := by decide +kernel
theorem dX9_sheet_58 : decode cX9_sheet 58 = .ok (.goto 4, 3) := by decide +kernel
theorem dX9_sheet_61 : decode cX9_sheet 61 = .ok (.iload_n 3, 1) := by decide +kernel
theorem dX9_sheet_62 : decode cX9_sheet 62 = .ok (.iastore, 1) := by decide +kernel
theorem dX9_sheet_63 : decode cX9_sheet 63 = .ok (.iconst 0, 1) := by decide +kernel
theorem dX9_sheet_64 : decode cX9_sheet 64 = .ok (.istore 4, 2) := by decide +kernel
theorem dX9_sheet_66 : decode cX9_sheet 66 = .ok (.iload 4, 2) := by decide +kernel
theorem dX9_sheet_68 : decode cX9_sheet 68 = .ok (.bipush 24, 2) := by decide +kernel
theorem dX9_sheet_70 : decode cX9_sheet 70 = .ok (.if_icmp .ge 22, 3) := by decide +kernel
theorem dX9_sheet_73 : decode cX9_sheet 73 = .ok (.aload_n 0, 1) := by decide +kernel
theorem dX9_sheet_74 : decode cX9_sheet 74 = .ok (.getfield 57, 3) := by decide +kernel
theorem dX9_sheet_77 : decode cX9_sheet 77 = .ok (.bipush 24, 2) := by decide +kernel
theorem dX9_sheet_79 : decode cX9_sheet 79 = .ok (.iload_n 1, 1) := by decide +kernel
theorem dX9_sheet_80 : decode cX9_sheet 80 = .ok (.imul, 1) := by decide +kernel
theorem dX9_sheet_81 : decode cX9_sheet 81 = .ok (.iload 4, 2) := by decide +kernel
theorem dX9_sheet_83 : decode cX9_sheet 83 = .ok (.iadd, 1) := by decide +kernel
theorem dX9_sheet_84 : decode cX9_sheet 84 = .ok (.iconst 0, 1) := by decide +kernel
theorem dX9_sheet_85 : decode cX9_sheet 85 = .ok (.iastore, 1) := by decide +kernel
theorem dX9_sheet_86 : decode cX9_sheet 86 = .ok (.iinc 4 1, 3) := by decide +kernel
theorem dX9_sheet_89 : decode cX9_sheet 89 = .ok (.goto (-23), 3) := by decide +kernel
theorem dX9_sheet_92 : decode cX9_sheet 92 = .ok (.aload_n 0, 1) := by decide +kernel
theorem dX9_sheet_93 : decode cX9_sheet 93 = .ok (.getfield 54, 3) := by decide +kernel
theorem dX9_sheet_96 : decode cX9_sheet 96 = .ok (.iload_n 1, 1) := by decide +kernel
theorem dX9_sheet_97 : decode cX9_sheet 97 = .ok (.iaload, 1) := by decide +kernel
theorem dX9_sheet_98 : decode cX9_sheet 98 = .ok (.ireturn, 1) := by decide +kernel
theorem dX9_mark_0 : decode cX9_mark 0 = .ok (.iload_n 1, 1) := by decide +kernel
theorem dX9_mark_1 : decode cX9_mark 1 = .ok (.invokestatic 217, 3) := by decide +kernel
theorem dX9_mark_4 : decode cX9_mark 4 = .ok (.ifCond .ne 6, 3) := by decide +kernel
theorem dX9_mark_7 : decode cX9_mark 7 = .ok (.ldc 118, 2) := by decide +kernel
theorem dX9_mark_9 : decode cX9_mark 9 = .ok (.ireturn, 1) := by decide +kernel
theorem dX9_mark_10 : decode cX9_mark 10 = .ok (.aload_n 0, 1) := by decide +kernel
theorem dX9_mark_11 : decode cX9_mark 11 = .ok (.getfield 51, 3) := by decide +kernel
theorem dX9_mark_14 : decode cX9_mark 14 = .ok (.iload_n 1, 1) := by decide +kernel
theorem dX9_mark_15 : decode cX9_mark 15 = .ok (.iaload, 1) := by decide +kernel
theorem dX9_mark_16 : decode cX9_mark 16 = .ok (.ifCond .ge 6, 3) := by decide +kernel
theorem dX9_mark_19 : decode cX9_mark 19 = .ok (.ldc 220, 2) := by decide +kernel
theorem dX9_mark_21 : decode cX9_mark 21 = .ok (.ireturn, 1) := by decide +kernel
theorem dX9_mark_22 : decode cX9_mark 22 = .ok (.iload_n 2, 1) := by decide +kernel
theorem dX9_mark_23 : decode cX9_mark 23 = .ok (.iconst 0, 1) := by decide +kernel
theorem dX9_mark_24 : decode cX9_mark 24 = .ok (.aload_n 0, 1) := by decide +kernel
theorem dX9_mark_25 : decode cX9_mark 25 = .ok (.getfield 54, 3) := by decide +kernel
theorem dX9_mark_28 : decode cX9_mark 28 = .ok (.iload_n 1, 1) := by decide +kernel
theorem dX9_mark_29 : decode cX9_mark 29 = .ok (.iaload, 1) := by decide +kernel
theorem dX9_mark_30 : decode cX9_mark 30 = .ok (.iconst 1, 1) := by decide +kernel
theorem dX9_mark_31 : decode cX9_mark 31 = .ok (.isub, 1) := by decide +kernel
theorem dX9_mark_32 : decode cX9_mark 32 = .ok (.invokestatic 79, 3) := by decide +kernel
theorem dX9_mark_35 : decode cX9_mark 35 = .ok (.ifCond .ne 7, 3) := by decide +kernel
theorem dX9_mark_38 : decode cX9_mark 38 = .ok (.ldc_w 288, 3) := by decide +kernel
theorem dX9_mark_41 : decode cX9_mark 41 = .ok (.ireturn, 1) := by decide +kernel
theorem dX9_mark_42 : decode cX9_mark 42 = .ok (.aload_n 0, 1) := by decide +kernel
theorem dX9_mark_43 : decode cX9_mark 43 = .ok (.getfield 51, 3) := by decide +kernel
theorem dX9_mark_46 : decode cX9_mark 46 = .ok (.iload_n 1, 1) := by decide +kernel
theorem dX9_mark_47 : decode cX9_mark 47 = .ok (.iaload, 1) := by decide +kernel
theorem dX9_mark_48 : decode cX9_mark 48 = .ok (.ifCond .ne 12, 3) := by decide +kernel
theorem dX9_mark_51 : decode cX9_mark 51 = .ok (.iload_n 3, 1) := by decide +kernel
theorem dX9_mark_52 : decode cX9_mark 52 = .ok (.ldc 78, 2) := by decide +kernel
theorem dX9_mark_54 : decode cX9_mark 54 = .ok (.if_icmp .ne 6, 3) := by decide +kernel
theorem dX9_mark_57 : decode cX9_mark 57 = .ok (.ldc 142, 2) := by decide +kernel
theorem dX9_mark_59 : decode cX9_mark 59 = .ok (.ireturn, 1) := by decide +kernel
theorem dX9_mark_60 : decode cX9_mark 60 = .ok (.aload_n 0, 1) := by decide +kernel
theorem dX9_mark_61 : decode cX9_mark 61 = .ok (.getfield 51, 3) := by decide +kernel
theorem dX9_mark_64 : decode cX9_mark 64 = .ok (.iload_n 1, 1) := by decide +kernel
theorem dX9_mark_65 : decode cX9_mark 65 = .ok (.iaload, 1) := by decide +kernel
theorem dX9_mark_66 : decode cX9_mark 66 = .ok (.iconst 1, 1) := by decide +kernel
theorem dX9_mark_67 : decode cX9_mark 67 = .ok (.if_icmp .ne 25, 3) := by decide +kernel
theorem dX9_mark_70 : decode cX9_mark 70 = .ok (.iload_n 3, 1) := by decide +kernel
theorem dX9_mark_71 : decode cX9_mark 71 = .ok (.ldc 78, 2) := by decide +kernel
theorem dX9_mark_73 : decode cX9_mark 73 = .ok (.if_icmp .eq 19, 3) := by decide +kernel
theorem dX9_mark_76 : decode cX9_mark 76 = .ok (.iload_n 3, 1) := by decide +kernel
theorem dX9_mark_77 : decode cX9_mark 77 = .ok (.ldc_w 289, 3) := by decide +kernel
theorem dX9_mark_80 : decode cX9_mark 80 = .ok (.ldc_w 290, 3) := by decide +kernel
theorem dX9_mark_83 : decode cX9_mark 83 = .ok (.invokestatic 79, 3) := by decide +kernel
theorem dX9_mark_86 : decode cX9_mark 86 = .ok (.ifCond .ne 6, 3) := by decide +kernel
theorem dX9_mark_89 : decode cX9_mark 89 = .ok (.ldc 118, 2) := by decide +kernel
theorem dX9_mark_91 : decode cX9_mark 91 = .ok (.ireturn, 1) := by decide +kernel
theorem dX9_mark_92 : decode cX9_mark 92 = .ok (.aload_n 0, 1) := by decide +kernel
theorem dX9_mark_93 : decode cX9_mark 93 = .ok (.getfield 57, 3) := by decide +kernel
theorem dX9_mark_96 : decode cX9_mark 96 = .ok (.bipush 24, 2) := by decide +kernel
theorem dX9_mark_98 : decode cX9_mark 98 = .ok (.iload_n 1, 1) := by decide +kernel
theorem dX9_mark_99 : decode cX9_mark 99 = .ok (.imul, 1) := by decide +kernel
theorem dX9_mark_100 : decode cX9_mark 100 = .ok (.iload_n 2, 1) := by decide +kernel
theorem dX9_mark_101 : decode cX9_mark 101 = .ok (.iadd, 1) := by decide +kernel
theorem dX9_mark_102 : decode cX9_mark 102 = .ok (.aload_n 0, 1) := by decide +kernel
theorem dX9_mark_103 : decode cX9_mark 103 = .ok (.getfield 51, 3) := by decide +kernel
theorem dX9_mark_106 : decode cX9_mark 106 = .ok (.iload_n 1, 1) := by decide +kernel
theorem dX9_mark_107 : decode cX9_mark 107 = .ok (.iaload, 1) := by decide +kernel
theorem dX9_mark_108 : decode cX9_mark 108 = .ok (.ifCond .ne 8, 3) := by decide +kernel
theorem dX9_mark_111 : decode cX9_mark 111 = .ok (.iload_n 3, 1) := by decide +kernel
theorem dX9_mark_112 : decode cX9_mark 112 = .ok (.i2s, 1) := by decide +kernel
theorem dX9_mark_113 : decode cX9_mark 113 = .ok (.goto 4, 3) := by decide +kernel
theorem dX9_mark_116 : decode cX9_mark 116 = .ok (.iload_n 3, 1) := by decide +kernel
theorem dX9_mark_117 : decode cX9_mark 117 = .ok (.iastore, 1) := by decide +kernel
theorem dX9_mark_118 : decode cX9_mark 118 = .ok (.iconst 1, 1) := by decide +kernel
theorem dX9_mark_119 : decode cX9_mark 119 = .ok (.ireturn, 1) := by decide +kernel
theorem dX9_pour_0 : decode cX9_pour 0 = .ok (.iload_n 1, 1) := by decide +kernel
theorem dX9_pour_1 : decode cX9_pour 1 = .ok (.invokestatic 217, 3) := by decide +kernel
theorem dX9_pour_4 : decode cX9_pour 4 = .ok (.ifCond .ne 6, 3) := by decide +kernel
theorem dX9_pour_7 : decode cX9_pour 7 = .ok (.ldc 118, 2) := by decide +kernel
theorem dX9_pour_9 : decode cX9_pour 9 = .ok (.ireturn, 1) := by decide +kernel
theorem dX9_pour_10 : decode cX9_pour 10 = .ok (.aload_n 0, 1) := by decide +kernel
theorem dX9_pour_11 : decode cX9_pour 11 = .ok (.getfield 51, 3) := by decide +kernel
theorem dX9_pour_14 : decode cX9_pour 14 = .ok (.iload_n 1, 1) := by decide +kernel
theorem dX9_pour_15 : decode cX9_pour 15 = .ok (.iaload, 1) := by decide +kernel
theorem dX9_pour_16 : decode cX9_pour 16 = .ok (.ifCond .ge 6, 3) := by decide +kernel
theorem dX9_pour_19 : decode cX9_pour 19 = .ok (.ldc 220, 2) := by decide +kernel
theorem dX9_pour_21 : decode cX9_pour 21 = .ok (.ireturn, 1) := by decide +kernel
theorem dX9_pour_22 : decode cX9_pour 22 = .ok (.iconst 0, 1) := by decide +kernel
theorem dX9_pour_23 : decode cX9_pour 23 = .ok (.istore_n 2, 1) := by decide +kernel
theorem dX9_pour_24 : decode cX9_pour 24 = .ok (.iconst 0, 1) := by decide +kernel
theorem dX9_pour_25 : decode cX9_pour 25 = .ok (.istore_n 3, 1) := by decide +kernel
theorem dX9_pour_26 : decode cX9_pour 26 = .ok (.iload_n 3, 1) := by decide +kernel
theorem dX9_pour_27 : decode cX9_pour 27 = .ok (.aload_n 0, 1) := by decide +kernel
theorem dX9_pour_28 : decode cX9_pour 28 = .ok (.getfield 54, 3) := by decide +kernel
theorem dX9_pour_31 : decode cX9_pour 31 = .ok (.iload_n 1, 1) := by decide +kernel
theorem dX9_pour_32 : decode cX9_pour 32 = .ok (.iaload, 1) := by decide +kernel
theorem dX9_pour_33 : decode cX9_pour 33 = .ok (.if_icmp .ge 84, 3) := by decide +kernel
theorem dX9_pour_36 : decode cX9_pour 36 = .ok (.iload_n 3, 1) := by decide +kernel
theorem dX9_pour_37 : decode cX9_pour 37 = .ok (.aload_n 0, 1) := by decide +kernel
theorem dX9_pour_38 : decode cX9_pour 38 = .ok (.getfield 9, 3) := by decide +kernel
theorem dX9_pour_41 : decode cX9_pour 41 = .ok (.iconst 2, 1) := by decide +kernel
theorem dX9_pour_42 : decode cX9_pour 42 = .ok (.iaload, 1) := by decide +kernel
theorem dX9_pour_43 : decode cX9_pour 43 = .ok (.if_icmp .ge 74, 3) := by decide +kernel
theorem dX9_pour_46 : decode cX9_pour 46 = .ok (.aload_n 0, 1) := by decide +kernel
theorem dX9_pour_47 : decode cX9_pour 47 = .ok (.getfield 57, 3) := by decide +kernel
theorem dX9_pour_50 : decode cX9_pour 50 = .ok (.bipush 24, 2) := by decide +kernel
theorem dX9_pour_52 : decode cX9_pour 52 = .ok (.iload_n 1, 1) := by decide +kernel
theorem dX9_pour_53 : decode cX9_pour 53 = .ok (.imul, 1) := by decide +kernel
theorem dX9_pour_54 : decode cX9_pour 54 = .ok (.iload_n 3, 1) := by decide +kernel
theorem dX9_pour_55 : decode cX9_pour 55 = .ok (.iadd, 1) := by decide +kernel
theorem dX9_pour_56 : decode cX9_pour 56 = .ok (.iaload, 1) := by decide +kernel
theorem dX9_pour_57 : decode cX9_pour 57 = .ok (.istore 4, 2) := by decide +kernel
theorem dX9_pour_59 : decode cX9_pour 59 = .ok (.iload 4, 2) := by decide +kernel
theorem dX9_pour_61 : decode cX9_pour 61 = .ok (.ldc 78, 2) := by decide +kernel
theorem dX9_pour_63 : decode cX9_pour 63 = .ok (.if_icmp .ne 15, 3) := by decide +kernel
theorem dX9_pour_66 : decode cX9_pour 66 = .ok (.aload_n 0, 1) := by decide +kernel
theorem dX9_pour_67 : decode cX9_pour 67 = .ok (.getfield 9, 3) := by decide +kernel
theorem dX9_pour_70 : decode cX9_pour 70 = .ok (.bipush 12, 2) := by decide +kernel
theorem dX9_pour_72 : decode cX9_pour 72 = .ok (.iload_n 3, 1) := by decide +kernel
theorem dX9_pour_73 : decode cX9_pour 73 = .ok (.iadd, 1) := by decide +kernel
theorem dX9_pour_74 : decode cX9_pour 74 = .ok (.iaload, 1) := by decide +kernel
theorem dX9_pour_75 : decode cX9_pour 75 = .ok (.goto 11, 3) := by decide +kernel
theorem dX9_pour_78 : decode cX9_pour 78 = .ok (.iload 4, 2) := by decide +kernel
theorem dX9_pour_80 : decode cX9_pour 80 = .ok (.iconst 0, 1) := by decide +kernel
theorem dX9_pour_81 : decode cX9_pour 81 = .ok (.bipush 99, 2) := by decide +kernel
theorem dX9_pour_83 : decode cX9_pour 83 = .ok (.invokestatic 153, 3) := by decide +kernel
theorem dX9_pour_86 : decode cX9_pour 86 = .ok (.istore 5, 2) := by decide +kernel
theorem dX9_pour_88 : decode cX9_pour 88 = .ok (.iload_n 2, 1) := by decide +kernel
theorem dX9_pour_89 : decode cX9_pour 89 = .ok (.aload_n 0, 1) := by decide +kernel
theorem dX9_pour_90 : decode cX9_pour 90 = .ok (.bipush 12, 2) := by decide +kernel
theorem dX9_pour_92 : decode cX9_pour 92 = .ok (.iload_n 3, 1) := by decide +kernel
theorem dX9_pour_93 : decode cX9_pour 93 = .ok (.iadd, 1) := by decide +kernel
theorem dX9_pour_94 : decode cX9_pour 94 = .ok (.iload 5, 2) := by decide +kernel
theorem dX9_pour_96 : decode cX9_pour 96 = .ok (.invokevirtual 144, 3) := by decide +kernel
theorem dX9_pour_99 : decode cX9_pour 99 = .ok (.iload 5, 2) := by decide +kernel
theorem dX9_pour_101 : decode cX9_pour 101 = .ok (.if_icmp .ne 7, 3) := by decide +kernel
theorem dX9_pour_104 : decode cX9_pour 104 = .ok (.iconst 0, 1) := by decide +kernel
theorem dX9_pour_105 : decode cX9_pour 105 = .ok (.goto 4, 3) := by decide +kernel
theorem dX9_pour_108 : decode cX9_pour 108 = .ok (.iconst 1, 1) := by decide +kernel
theorem dX9_pour_109 : decode cX9_pour 109 = .ok (.iadd, 1) := by decide +kernel
theorem dX9_pour_110 : decode cX9_pour 110 = .ok (.istore_n 2, 1) := by decide +kernel
theorem dX9_pour_111 : decode cX9_pour 111 = .ok (.iinc 3 1, 3) := by decide +kernel
theorem dX9_pour_114 : decode cX9_pour 114 = .ok (.goto (-88), 3) := by decide +kernel
theorem dX9_pour_117 : decode cX9_pour 117 = .ok (.iload_n 2, 1) := by decide +kernel
theorem dX9_pour_118 : decode cX9_pour 118 = .ok (.ireturn, 1) := by decide +kernel
theorem dX9_reads_0 : decode cX9_reads 0 = .ok (.iload_n 1, 1) := by decide +kernel
theorem dX9_reads_1 : decode cX9_reads 1 = .ok (.invokestatic 217, 3) := by decide +kernel
theorem dX9_reads_4 : decode cX9_reads 4 = .ok (.ifCond .ne 6, 3) := by decide +kernel
theorem dX9_reads_7 : decode cX9_reads 7 = .ok (.ldc 118, 2) := by decide +kernel
theorem dX9_reads_9 : decode cX9_reads 9 = .ok (.ireturn, 1) := by decide +kernel
theorem dX9_reads_10 : decode cX9_reads 10 = .ok (.aload_n 0, 1) := by decide +kernel
theorem dX9_reads_11 : decode cX9_reads 11 = .ok (.getfield 51, 3) := by decide +kernel
theorem dX9_reads_14 : decode cX9_reads 14 = .ok (.iload_n 1, 1) := by decide +kernel
theorem dX9_reads_15 : decode cX9_reads 15 = .ok (.iaload, 1) := by decide +kernel
theorem dX9_reads_16 : decode cX9_reads 16 = .ok (.ifCond .ge 6, 3) := by decide +kernel
theorem dX9_reads_19 : decode cX9_reads 19 = .ok (.ldc 220, 2) := by decide +kernel
theorem dX9_reads_21 : decode cX9_reads 21 = .ok (.ireturn, 1) := by decide +kernel
theorem dX9_reads_22 : decode cX9_reads 22 = .ok (.iconst 0, 1) := by decide +kernel
theorem dX9_reads_23 : decode cX9_reads 23 = .ok (.istore_n 2, 1) := by decide +kernel
theorem dX9_reads_24 : decode cX9_reads 24 = .ok (.iload_n 2, 1) := by decide +kernel
theorem dX9_reads_25 : decode cX9_reads 25 = .ok (.aload_n 0, 1) := by decide +kernel
theorem dX9_reads_26 : decode cX9_reads 26 = .ok (.getfield 54, 3) := by decide +kernel
theorem dX9_reads_29 : decode cX9_reads 29 = .ok (.iload_n 1, 1) := by decide +kernel
theorem dX9_reads_30 : decode cX9_reads 30 = .ok (.iaload, 1) := by decide +kernel
theorem dX9_reads_31 : decode cX9_reads 31 = .ok (.if_icmp .ge 47, 3) := by decide +kernel
theorem dX9_reads_34 : decode cX9_reads 34 = .ok (.aload_n 0, 1) := by decide +kernel
theorem dX9_reads_35 : decode cX9_reads 35 = .ok (.getfield 57, 3) := by decide +kernel
theorem dX9_reads_38 : decode cX9_reads 38 = .ok (.bipush 24, 2) := by decide +kernel
theorem dX9_reads_40 : decode cX9_reads 40 = .ok (.iload_n 1, 1) := by decide +kernel
theorem dX9_reads_41 : decode cX9_reads 41 = .ok (.imul, 1) := by decide +kernel
theorem dX9_reads_42 : decode cX9_reads 42 = .ok (.iload_n 2, 1) := by decide +kernel
theorem dX9_reads_43 : decode cX9_reads 43 = .ok (.iadd, 1) := by decide +kernel
theorem dX9_reads_44 : decode cX9_reads 44 = .ok (.iaload, 1) := by decide +kernel
theorem dX9_reads_45 : decode cX9_reads 45 = .ok (.istore_n 3, 1) := by decide +kernel
theorem dX9_reads_46 : decode cX9_reads 46 = .ok (.iload_n 3, 1) := by decide +kernel
theorem dX9_reads_47 : decode cX9_reads 47 = .ok (.ldc 78, 2) := by decide +kernel
theorem dX9_reads_49 : decode cX9_reads 49 = .ok (.if_icmp .eq 23, 3) := by decide +kernel
theorem dX9_reads_52 : decode cX9_reads 52 = .ok (.aload_n 0, 1) := by decide +kernel
theorem dX9_reads_53 : decode cX9_reads 53 = .ok (.iload_n 2, 1) := by decide +kernel
theorem dX9_reads_54 : decode cX9_reads 54 = .ok (.invokevirtual 130, 3) := by decide +kernel
theorem dX9_reads_57 : decode cX9_reads 57 = .ok (.ifCond .eq 13, 3) := by decide +kernel
theorem dX9_reads_60 : decode cX9_reads 60 = .ok (.iload_n 3, 1) := by decide +kernel
theorem dX9_reads_61 : decode cX9_reads 61 = .ok (.aload_n 0, 1) := by decide +kernel
theorem dX9_reads_62 : decode cX9_reads 62 = .ok (.iload_n 2, 1) := by decide +kernel
theorem dX9_reads_63 : decode cX9_reads 63 = .ok (.iconst 2, 1) := by decide +kernel
theorem dX9_reads_64 : decode cX9_reads 64 = .ok (.invokevirtual 87, 3) := by decide +kernel
theorem dX9_reads_67 : decode cX9_reads 67 = .ok (.if_icmp .eq 5, 3) := by decide +kernel
theorem dX9_reads_70 : decode cX9_reads 70 = .ok (.iload_n 2, 1) := by decide +kernel
theorem dX9_reads_71 : decode cX9_reads 71 = .ok (.ireturn, 1) := by decide +kernel
theorem dX9_reads_72 : decode cX9_reads 72 = .ok (.iinc 2 1, 3) := by decide +kernel
theorem dX9_reads_75 : decode cX9_reads 75 = .ok (.goto (-51), 3) := by decide +kernel
theorem dX9_reads_78 : decode cX9_reads 78 = .ok (.ldc 78, 2) := by decide +kernel
theorem dX9_reads_80 : decode cX9_reads 80 = .ok (.ireturn, 1) := by decide +kernel
theorem dX9_copy_0 : decode cX9_copy 0 = .ok (.iload_n 1, 1) := by decide +kernel
theorem dX9_copy_1 : decode cX9_copy 1 = .ok (.invokestatic 217, 3) := by decide +kernel
theorem dX9_copy_4 : decode cX9_copy 4 = .ok (.ifCond .eq 10, 3) := by decide +kernel
theorem dX9_copy_7 : decode cX9_copy 7 = .ok (.iload_n 3, 1) := by decide +kernel
theorem dX9_copy_8 : decode cX9_copy 8 = .ok (.invokestatic 217, 3) := by decide +kernel
theorem dX9_copy_11 : decode cX9_copy 11 = .ok (.ifCond .ne 6, 3) := by decide +kernel
theorem dX9_copy_14 : decode cX9_copy 14 = .ok (.ldc 118, 2) := by decide +kernel
theorem dX9_copy_16 : decode cX9_copy 16 = .ok (.ireturn, 1) := by decide +kernel
theorem dX9_copy_17 : decode cX9_copy 17 = .ok (.aload_n 0, 1) := by decide +kernel
theorem dX9_copy_18 : decode cX9_copy 18 = .ok (.getfield 51, 3) := by decide +kernel
theorem dX9_copy_21 : decode cX9_copy 21 = .ok (.iload_n 1, 1) := by decide +kernel
theorem dX9_copy_22 : decode cX9_copy 22 = .ok (.iaload, 1) := by decide +kernel
theorem dX9_copy_23 : decode cX9_copy 23 = .ok (.ifCond .lt 12, 3) := by decide +kernel
theorem dX9_copy_26 : decode cX9_copy 26 = .ok (.aload_n 0, 1) := by decide +kernel
theorem dX9_copy_27 : decode cX9_copy 27 = .ok (.getfield 51, 3) := by decide +kernel
theorem dX9_copy_30 : decode cX9_copy 30 = .ok (.iload_n 3, 1) := by decide +kernel
theorem dX9_copy_31 : decode cX9_copy 31 = .ok (.iaload, 1) := by decide +kernel
theorem dX9_copy_32 : decode cX9_copy 32 = .ok (.ifCond .ge 6, 3) := by decide +kernel
theorem dX9_copy_35 : decode cX9_copy 35 = .ok (.ldc 220, 2) := by decide +kernel
theorem dX9_copy_37 : decode cX9_copy 37 = .ok (.ireturn, 1) := by decide +kernel
theorem dX9_copy_38 : decode cX9_copy 38 = .ok (.aload_n 0, 1) := by decide +kernel
theorem dX9_copy_39 : decode cX9_copy 39 = .ok (.getfield 51, 3) := by decide +kernel
theorem dX9_copy_42 : decode cX9_copy 42 = .ok (.iload_n 1, 1) := by decide +kernel
theorem dX9_copy_43 : decode cX9_copy 43 = .ok (.iaload, 1) := by decide +kernel
theorem dX9_copy_44 : decode cX9_copy 44 = .ok (.aload_n 0, 1) := by decide +kernel
theorem dX9_copy_45 : decode cX9_copy 45 = .ok (.getfield 51, 3) := by decide +kernel
theorem dX9_copy_48 : decode cX9_copy 48 = .ok (.iload_n 3, 1) := by decide +kernel
theorem dX9_copy_49 : decode cX9_copy 49 = .ok (.iaload, 1) := by decide +kernel
theorem dX9_copy_50 : decode cX9_copy 50 = .ok (.if_icmp .eq 6, 3) := by decide +kernel
theorem dX9_copy_53 : decode cX9_copy 53 = .ok (.ldc 142, 2) := by decide +kernel
theorem dX9_copy_55 : decode cX9_copy 55 = .ok (.ireturn, 1) := by decide +kernel
theorem dX9_copy_56 : decode cX9_copy 56 = .ok (.iload_n 2, 1) := by decide +kernel
theorem dX9_copy_57 : decode cX9_copy 57 = .ok (.ifCond .lt 40, 3) := by decide +kernel
theorem dX9_copy_60 : decode cX9_copy 60 = .ok (.iload 4, 2) := by decide +kernel
theorem dX9_copy_62 : decode cX9_copy 62 = .ok (.ifCond .lt 35, 3) := by decide +kernel
theorem dX9_copy_65 : decode cX9_copy 65 = .ok (.iload 5, 2) := by decide +kernel
theorem dX9_copy_67 : decode cX9_copy 67 = .ok (.ifCond .lt 30, 3) := by decide +kernel
theorem dX9_copy_70 : decode cX9_copy 70 = .ok (.iload_n 2, 1) := by decide +kernel
theorem dX9_copy_71 : decode cX9_copy 71 = .ok (.aload_n 0, 1) := by decide +kernel
theorem dX9_copy_72 : decode cX9_copy 72 = .ok (.getfield 54, 3) := by decide +kernel
theorem dX9_copy_75 : decode cX9_copy 75 = .ok (.iload_n 1, 1) := by decide +kernel
theorem dX9_copy_76 : decode cX9_copy 76 = .ok (.iaload, 1) := by decide +kernel
theorem dX9_copy_77 : decode cX9_copy 77 = .ok (.iload 5, 2) := by decide +kernel
theorem dX9_copy_79 : decode cX9_copy 79 = .ok (.isub, 1) := by decide +kernel
theorem dX9_copy_80 : decode cX9_copy 80 = .ok (.if_icmp .gt 17, 3) := by decide +kernel
theorem dX9_copy_83 : decode cX9_copy 83 = .ok (.iload 4, 2) := by decide +kernel
theorem dX9_copy_85 : decode cX9_copy 85 = .ok (.aload_n 0, 1) := by decide +kernel
theorem dX9_copy_86 : decode cX9_copy 86 = .ok (.getfield 54, 3) := by decide +kernel
theorem dX9_copy_89 : decode cX9_copy 89 = .ok (.iload_n 3, 1) := by decide +kernel
theorem dX9_copy_90 : decode cX9_copy 90 = .ok (.iaload, 1) := by decide +kernel
theorem dX9_copy_91 : decode cX9_copy 91 = .ok (.iload 5, 2) := by decide +kernel
theorem dX9_copy_93 : decode cX9_copy 93 = .ok (.isub, 1) := by decide +kernel
theorem dX9_copy_94 : decode cX9_copy 94 = .ok (.if_icmp .le 7, 3) := by decide +kernel
theorem dX9_copy_97 : decode cX9_copy 97 = .ok (.ldc_w 288, 3) := by decide +kernel
theorem dX9_copy_100 : decode cX9_copy 100 = .ok (.ireturn, 1) := by decide +kernel
theorem dX9_copy_101 : decode cX9_copy 101 = .ok (.iconst 0, 1) := by decide +kernel
theorem dX9_copy_102 : decode cX9_copy 102 = .ok (.istore 6, 2) := by decide +kernel
theorem dX9_copy_104 : decode cX9_copy 104 = .ok (.iload 6, 2) := by decide +kernel
theorem dX9_copy_106 : decode cX9_copy 106 = .ok (.iload 5, 2) := by decide +kernel
theorem dX9_copy_108 : decode cX9_copy 108 = .ok (.if_icmp .ge 30, 3) := by decide +kernel
theorem dX9_copy_111 : decode cX9_copy 111 = .ok (.aload_n 0, 1) := by decide +kernel
theorem dX9_copy_112 : decode cX9_copy 112 = .ok (.getfield 72, 3) := by decide +kernel
theorem dX9_copy_115 : decode cX9_copy 115 = .ok (.iload 6, 2) := by decide +kernel
theorem dX9_copy_117 : decode cX9_copy 117 = .ok (.aload_n 0, 1) := by decide +kernel
theorem dX9_copy_118 : decode cX9_copy 118 = .ok (.getfield 57, 3) := by decide +kernel
theorem dX9_copy_121 : decode cX9_copy 121 = .ok (.bipush 24, 2) := by decide +kernel
theorem dX9_copy_123 : decode cX9_copy 123 = .ok (.iload_n 1, 1) := by decide +kernel
theorem dX9_copy_124 : decode cX9_copy 124 = .ok (.imul, 1) := by decide +kernel
theorem dX9_copy_125 : decode cX9_copy 125 = .ok (.iload_n 2, 1) := by decide +kernel
theorem dX9_copy_126 : decode cX9_copy 126 = .ok (.iadd, 1) := by decide +kernel
theorem dX9_copy_127 : decode cX9_copy 127 = .ok (.iload 6, 2) := by decide +kernel
theorem dX9_copy_129 : decode cX9_copy 129 = .ok (.iadd, 1) := by decide +kernel
theorem dX9_copy_130 : decode cX9_copy 130 = .ok (.iaload, 1) := by decide +kernel
theorem dX9_copy_131 : decode cX9_copy 131 = .ok (.iastore, 1) := by decide +kernel
theorem dX9_copy_132 : decode cX9_copy 132 = .ok (.iinc 6 1, 3) := by decide +kernel
theorem dX9_copy_135 : decode cX9_copy 135 = .ok (.goto (-31), 3) := by decide +kernel
theorem dX9_copy_138 : decode cX9_copy 138 = .ok (.iconst 0, 1) := by decide +kernel
theorem dX9_copy_139 : decode cX9_copy 139 = .ok (.istore 6, 2) := by decide +kernel
theorem dX9_copy_141 : decode cX9_copy 141 = .ok (.iload 6, 2) := by decide +kernel
theorem dX9_copy_143 : decode cX9_copy 143 = .ok (.iload 5, 2) := by decide +kernel
theorem dX9_copy_145 : decode cX9_copy 145 = .ok (.if_icmp .ge 31, 3) := by decide +kernel
theorem dX9_copy_148 : decode cX9_copy 148 = .ok (.aload_n 0, 1) := by decide +kernel
theorem dX9_copy_149 : decode cX9_copy 149 = .ok (.getfield 57, 3) := by decide +kernel
theorem dX9_copy_152 : decode cX9_copy 152 = .ok (.bipush 24, 2) := by decide +kernel
theorem dX9_copy_154 : decode cX9_copy 154 = .ok (.iload_n 3, 1) := by decide +kernel
theorem dX9_copy_155 : decode cX9_copy 155 = .ok (.imul, 1) := by decide +kernel
theorem dX9_copy_156 : decode cX9_copy 156 = .ok (.iload 4, 2) := by decide +kernel
theorem dX9_copy_158 : decode cX9_copy 158 = .ok (.iadd, 1) := by decide +kernel
theorem dX9_copy_159 : decode cX9_copy 159 = .ok (.iload 6, 2) := by decide +kernel
theorem dX9_copy_161 : decode cX9_copy 161 = .ok (.iadd, 1) := by decide +kernel
theorem dX9_copy_162 : decode cX9_copy 162 = .ok (.aload_n 0, 1) := by decide +kernel
theorem dX9_copy_163 : decode cX9_copy 163 = .ok (.getfield 72, 3) := by decide +kernel
theorem dX9_copy_166 : decode cX9_copy 166 = .ok (.iload 6, 2) := by decide +kernel
theorem dX9_copy_168 : decode cX9_copy 168 = .ok (.iaload, 1) := by decide +kernel
theorem dX9_copy_169 : decode cX9_copy 169 = .ok (.iastore, 1) := by decide +kernel
theorem dX9_copy_170 : decode cX9_copy 170 = .ok (.iinc 6 1, 3) := by decide +kernel
theorem dX9_copy_173 : decode cX9_copy 173 = .ok (.goto (-32), 3) := by decide +kernel
theorem dX9_copy_176 : decode cX9_copy 176 = .ok (.iload 5, 2) := by decide +kernel
theorem dX9_copy_178 : decode cX9_copy 178 = .ok (.ireturn, 1) := by decide +kernel
theorem dX9_lay_0 : decode cX9_lay 0 = .ok (.iload_n 1, 1) := by decide +kernel
theorem dX9_lay_1 : decode cX9_lay 1 = .ok (.invokestatic 291, 3) := by decide +kernel
theorem dX9_lay_4 : decode cX9_lay 4 = .ok (.ifCond .eq 37, 3) := by decide +kernel
theorem dX9_lay_7 : decode cX9_lay 7 = .ok (.iload_n 2, 1) := by decide +kernel
theorem dX9_lay_8 : decode cX9_lay 8 = .ok (.iconst 0, 1) := by decide +kernel
theorem dX9_lay_9 : decode cX9_lay 9 = .ok (.iconst 3, 1) := by decide +kernel
theorem dX9_lay_10 : decode cX9_lay 10 = .ok (.invokestatic 79, 3) := by decide +kernel
theorem dX9_lay_13 : decode cX9_lay 13 = .ok (.ifCond .eq 28, 3) := by decide +kernel
theorem dX9_lay_16 : decode cX9_lay 16 = .ok (.iload_n 2, 1) := by decide +kernel
theorem dX9_lay_17 : decode cX9_lay 17 = .ok (.iconst 1, 1) := by decide +kernel
theorem dX9_lay_18 : decode cX9_lay 18 = .ok (.if_icmp .ne 11, 3) := by decide +kernel
theorem dX9_lay_21 : decode cX9_lay 21 = .ok (.aload_n 0, 1) := by decide +kernel
theorem dX9_lay_22 : decode cX9_lay 22 = .ok (.iload_n 3, 1) := by decide +kernel
theorem dX9_lay_23 : decode cX9_lay 23 = .ok (.invokevirtual 130, 3) := by decide +kernel
theorem dX9_lay_26 : decode cX9_lay 26 = .ok (.ifCond .eq 15, 3) := by decide +kernel
theorem dX9_lay_29 : decode cX9_lay 29 = .ok (.iload_n 2, 1) := by decide +kernel
theorem dX9_lay_30 : decode cX9_lay 30 = .ok (.iconst 2, 1) := by decide +kernel
theorem dX9_lay_31 : decode cX9_lay 31 = .ok (.if_icmp .ne 13, 3) := by decide +kernel
theorem dX9_lay_34 : decode cX9_lay 34 = .ok (.iload_n 3, 1) := by decide +kernel
theorem dX9_lay_35 : decode cX9_lay 35 = .ok (.invokestatic 217, 3) := by decide +kernel
theorem dX9_lay_38 : decode cX9_lay 38 = .ok (.ifCond .ne 6, 3) := by decide +kernel
theorem dX9_lay_41 : decode cX9_lay 41 = .ok (.ldc 118, 2) := by decide +kernel
theorem dX9_lay_43 : decode cX9_lay 43 = .ok (.ireturn, 1) := by decide +kernel
theorem dX9_lay_44 : decode cX9_lay 44 = .ok (.iload_n 2, 1) := by decide +kernel
theorem dX9_lay_45 : decode cX9_lay 45 = .ok (.iconst 2, 1) := by decide +kernel
theorem dX9_lay_46 : decode cX9_lay 46 = .ok (.if_icmp .ne 15, 3) := by decide +kernel
theorem dX9_lay_49 : decode cX9_lay 49 = .ok (.aload_n 0, 1) := by decide +kernel
theorem dX9_lay_50 : decode cX9_lay 50 = .ok (.getfield 51, 3) := by decide +kernel
theorem dX9_lay_53 : decode cX9_lay 53 = .ok (.iload_n 3, 1) := by decide +kernel
theorem dX9_lay_54 : decode cX9_lay 54 = .ok (.iaload, 1) := by decide +kernel
theorem dX9_lay_55 : decode cX9_lay 55 = .ok (.ifCond .ge 6, 3) := by decide +kernel
theorem dX9_lay_58 : decode cX9_lay 58 = .ok (.ldc 220, 2) := by decide +kernel
theorem dX9_lay_60 : decode cX9_lay 60 = .ok (.ireturn, 1) := by decide +kernel
theorem dX9_lay_61 : decode cX9_lay 61 = .ok (.aload_n 0, 1) := by decide +kernel
theorem dX9_lay_62 : decode cX9_lay 62 = .ok (.getfield 60, 3) := by decide +kernel
theorem dX9_lay_65 : decode cX9_lay 65 = .ok (.iload_n 1, 1) := by decide +kernel
theorem dX9_lay_66 : decode cX9_lay 66 = .ok (.iaload, 1) := by decide +kernel
theorem dX9_lay_67 : decode cX9_lay 67 = .ok (.istore 4, 2) := by decide +kernel
theorem dX9_lay_69 : decode cX9_lay 69 = .ok (.aload_n 0, 1) := by decide +kernel
theorem dX9_lay_70 : decode cX9_lay 70 = .ok (.getfield 60, 3) := by decide +kernel
theorem dX9_lay_73 : decode cX9_lay 73 = .ok (.iload_n 1, 1) := by decide +kernel
theorem dX9_lay_74 : decode cX9_lay 74 = .ok (.iload_n 2, 1) := by decide +kernel
theorem dX9_lay_75 : decode cX9_lay 75 = .ok (.iastore, 1) := by decide +kernel
theorem dX9_lay_76 : decode cX9_lay 76 = .ok (.aload_n 0, 1) := by decide +kernel
theorem dX9_lay_77 : decode cX9_lay 77 = .ok (.getfield 63, 3) := by decide +kernel
theorem dX9_lay_80 : decode cX9_lay 80 = .ok (.iload_n 1, 1) := by decide +kernel
theorem dX9_lay_81 : decode cX9_lay 81 = .ok (.iload_n 2, 1) := by decide +kernel
theorem dX9_lay_82 : decode cX9_lay 82 = .ok (.iconst 1, 1) := by decide +kernel
theorem dX9_lay_83 : decode cX9_lay 83 = .ok (.if_icmp .ne 12, 3) := by decide +kernel
theorem dX9_lay_86 : decode cX9_lay 86 = .ok (.aload_n 0, 1) := by decide +kernel
theorem dX9_lay_87 : decode cX9_lay 87 = .ok (.iload_n 3, 1) := by decide +kernel
theorem dX9_lay_88 : decode cX9_lay 88 = .ok (.iconst 0, 1) := by decide +kernel
theorem dX9_lay_89 : decode cX9_lay 89 = .ok (.invokevirtual 87, 3) := by decide +kernel
theorem dX9_lay_92 : decode cX9_lay 92 = .ok (.goto 18, 3) := by decide +kernel
theorem dX9_lay_95 : decode cX9_lay 95 = .ok (.iload_n 2, 1) := by decide +kernel
theorem dX9_lay_96 : decode cX9_lay 96 = .ok (.iconst 2, 1) := by decide +kernel
theorem dX9_lay_97 : decode cX9_lay 97 = .ok (.if_icmp .ne 12, 3) := by decide +kernel
theorem dX9_lay_100 : decode cX9_lay 100 = .ok (.aload_n 0, 1) := by decide +kernel
theorem dX9_lay_101 : decode cX9_lay 101 = .ok (.getfield 54, 3) := by decide +kernel
theorem dX9_lay_104 : decode cX9_lay 104 = .ok (.iload_n 3, 1) := by decide +kernel
theorem dX9_lay_105 : decode cX9_lay 105 = .ok (.iaload, 1) := by decide +kernel
theorem dX9_lay_106 : decode cX9_lay 106 = .ok (.goto 4, 3) := by decide +kernel
theorem dX9_lay_109 : decode cX9_lay 109 = .ok (.iload_n 3, 1) := by decide +kernel
theorem dX9_lay_110 : decode cX9_lay 110 = .ok (.iastore, 1) := by decide +kernel
theorem dX9_lay_111 : decode cX9_lay 111 = .ok (.aload_n 0, 1) := by decide +kernel
theorem dX9_lay_112 : decode cX9_lay 112 = .ok (.getfield 66, 3) := by decide +kernel
theorem dX9_lay_115 : decode cX9_lay 115 = .ok (.iload_n 1, 1) := by decide +kernel
theorem dX9_lay_116 : decode cX9_lay 116 = .ok (.iload_n 2, 1) := by decide +kernel
theorem dX9_lay_117 : decode cX9_lay 117 = .ok (.iconst 1, 1) := by decide +kernel
theorem dX9_lay_118 : decode cX9_lay 118 = .ok (.if_icmp .ne 11, 3) := by decide +kernel
theorem dX9_lay_121 : decode cX9_lay 121 = .ok (.aload_n 0, 1) := by decide +kernel
theorem dX9_lay_122 : decode cX9_lay 122 = .ok (.iload_n 3, 1) := by decide +kernel
theorem dX9_lay_123 : decode cX9_lay 123 = .ok (.invokevirtual 136, 3) := by decide +kernel
theorem dX9_lay_126 : decode cX9_lay 126 = .ok (.goto 4, 3) := by decide +kernel
theorem dX9_lay_129 : decode cX9_lay 129 = .ok (.iconst 0, 1) := by decide +kernel
theorem dX9_lay_130 : decode cX9_lay 130 = .ok (.iastore, 1) := by decide +kernel
theorem dX9_lay_131 : decode cX9_lay 131 = .ok (.iconst 0, 1) := by decide +kernel
theorem dX9_lay_132 : decode cX9_lay 132 = .ok (.istore 5, 2) := by decide +kernel
theorem dX9_lay_134 : decode cX9_lay 134 = .ok (.iload 5, 2) := by decide +kernel
theorem dX9_lay_136 : decode cX9_lay 136 = .ok (.bipush 24, 2) := by decide +kernel
theorem dX9_lay_138 : decode cX9_lay 138 = .ok (.if_icmp .ge 38, 3) := by decide +kernel
theorem dX9_lay_141 : decode cX9_lay 141 = .ok (.iload_n 2, 1) := by decide +kernel
theorem dX9_lay_142 : decode cX9_lay 142 = .ok (.iconst 2, 1) := by decide +kernel
theorem dX9_lay_143 : decode cX9_lay 143 = .ok (.if_icmp .ne 33, 3) := by decide +kernel
theorem dX9_lay_146 : decode cX9_lay 146 = .ok (.aload_n 0, 1) := by decide +kernel
theorem dX9_lay_147 : decode cX9_lay 147 = .ok (.getfield 69, 3) := by decide +kernel
theorem dX9_lay_150 : decode cX9_lay 150 = .ok (.bipush 24, 2) := by decide +kernel
theorem dX9_lay_152 : decode cX9_lay 152 = .ok (.iload_n 1, 1) := by decide +kernel
theorem dX9_lay_153 : decode cX9_lay 153 = .ok (.imul, 1) := by decide +kernel
theorem dX9_lay_154 : decode cX9_lay 154 = .ok (.iload 5, 2) := by decide +kernel
theorem dX9_lay_156 : decode cX9_lay 156 = .ok (.iadd, 1) := by decide +kernel
theorem dX9_lay_157 : decode cX9_lay 157 = .ok (.aload_n 0, 1) := by decide +kernel
theorem dX9_lay_158 : decode cX9_lay 158 = .ok (.getfield 57, 3) := by decide +kernel
theorem dX9_lay_161 : decode cX9_lay 161 = .ok (.bipush 24, 2) := by decide +kernel
theorem dX9_lay_163 : decode cX9_lay 163 = .ok (.iload_n 3, 1) := by decide +kernel
theorem dX9_lay_164 : decode cX9_lay 164 = .ok (.imul, 1) := by decide +kernel
theorem dX9_lay_165 : decode cX9_lay 165 = .ok (.iload 5, 2) := by decide +kernel
theorem dX9_lay_167 : decode cX9_lay 167 = .ok (.iadd, 1) := by decide +kernel
theorem dX9_lay_168 : decode cX9_lay 168 = .ok (.iaload, 1) := by decide +kernel
theorem dX9_lay_169 : decode cX9_lay 169 = .ok (.iastore, 1) := by decide +kernel
theorem dX9_lay_170 : decode cX9_lay 170 = .ok (.iinc 5 1, 3) := by decide +kernel
theorem dX9_lay_173 : decode cX9_lay 173 = .ok (.goto (-39), 3) := by decide +kernel
theorem dX9_lay_176 : decode cX9_lay 176 = .ok (.iload 4, 2) := by decide +kernel
theorem dX9_lay_178 : decode cX9_lay 178 = .ok (.ireturn, 1) := by decide +kernel
theorem dX9_ask_0 : decode cX9_ask 0 = .ok (.iload_n 1, 1) := by decide +kernel
theorem dX9_ask_1 : decode cX9_ask 1 = .ok (.invokestatic 291, 3) := by decide +kernel
theorem dX9_ask_4 : decode cX9_ask 4 = .ok (.ifCond .eq 12, 3) := by decide +kernel
theorem dX9_ask_7 : decode cX9_ask 7 = .ok (.iload_n 2, 1) := by decide +kernel
theorem dX9_ask_8 : decode cX9_ask 8 = .ok (.iconst 0, 1) := by decide +kernel
theorem dX9_ask_9 : decode cX9_ask 9 = .ok (.iconst 5, 1) := by decide +kernel
theorem dX9_ask_10 : decode cX9_ask 10 = .ok (.invokestatic 79, 3) := by decide +kernel
theorem dX9_ask_13 : decode cX9_ask 13 = .ok (.ifCond .ne 6, 3) := by decide +kernel
theorem dX9_ask_16 : decode cX9_ask 16 = .ok (.ldc 118, 2) := by decide +kernel
theorem dX9_ask_18 : decode cX9_ask 18 = .ok (.ireturn, 1) := by decide +kernel
theorem dX9_ask_19 : decode cX9_ask 19 = .ok (.aload_n 0, 1) := by decide +kernel
theorem dX9_ask_20 : decode cX9_ask 20 = .ok (.getfield 60, 3) := by decide +kernel
theorem dX9_ask_23 : decode cX9_ask 23 = .ok (.iload_n 1, 1) := by decide +kernel
theorem dX9_ask_24 : decode cX9_ask 24 = .ok (.iaload, 1) := by decide +kernel
theorem dX9_ask_25 : decode cX9_ask 25 = .ok (.ifCond .ne 6, 3) := by decide +kernel
theorem dX9_ask_28 : decode cX9_ask 28 = .ok (.ldc 220, 2) := by decide +kernel
theorem dX9_ask_30 : decode cX9_ask 30 = .ok (.ireturn, 1) := by decide +kernel
theorem dX9_ask_31 : decode cX9_ask 31 = .ok (.aload_n 0, 1) := by decide +kernel
theorem dX9_ask_32 : decode cX9_ask 32 = .ok (.getfield 60, 3) := by decide +kernel
theorem dX9_ask_35 : decode cX9_ask 35 = .ok (.iload_n 1, 1) := by decide +kernel
theorem dX9_ask_36 : decode cX9_ask 36 = .ok (.iaload, 1) := by decide +kernel
theorem dX9_ask_37 : decode cX9_ask 37 = .ok (.iconst 1, 1) := by decide +kernel
theorem dX9_ask_38 : decode cX9_ask 38 = .ok (.if_icmp .ne 25, 3) := by decide +kernel
theorem dX9_ask_41 : decode cX9_ask 41 = .ok (.aload_n 0, 1) := by decide +kernel
theorem dX9_ask_42 : decode cX9_ask 42 = .ok (.getfield 63, 3) := by decide +kernel
theorem dX9_ask_45 : decode cX9_ask 45 = .ok (.iload_n 1, 1) := by decide +kernel
theorem dX9_ask_46 : decode cX9_ask 46 = .ok (.iaload, 1) := by decide +kernel
theorem dX9_ask_47 : decode cX9_ask 47 = .ok (.iload_n 2, 1) := by decide +kernel
theorem dX9_ask_48 : decode cX9_ask 48 = .ok (.invokestatic 139, 3) := by decide +kernel
theorem dX9_ask_51 : decode cX9_ask 51 = .ok (.ifCond .eq 12, 3) := by decide +kernel
theorem dX9_ask_54 : decode cX9_ask 54 = .ok (.aload_n 0, 1) := by decide +kernel
theorem dX9_ask_55 : decode cX9_ask 55 = .ok (.getfield 66, 3) := by decide +kernel
theorem dX9_ask_58 : decode cX9_ask 58 = .ok (.iload_n 1, 1) := by decide +kernel
theorem dX9_ask_59 : decode cX9_ask 59 = .ok (.iaload, 1) := by decide +kernel
theorem dX9_ask_60 : decode cX9_ask 60 = .ok (.goto 5, 3) := by decide +kernel
theorem dX9_ask_63 : decode cX9_ask 63 = .ok (.ldc 142, 2) := by decide +kernel
theorem dX9_ask_65 : decode cX9_ask 65 = .ok (.ireturn, 1) := by decide +kernel
theorem dX9_item_0 : decode cX9_item 0 = .ok (.iload_n 1, 1) := by decide +kernel
theorem dX9_item_1 : decode cX9_item 1 = .ok (.invokestatic 291, 3) := by decide +kernel
theorem dX9_item_4 : decode cX9_item 4 = .ok (.ifCond .ne 6, 3) := by decide +kernel
theorem dX9_item_7 : decode cX9_item 7 = .ok (.ldc 118, 2) := by decide +kernel
theorem dX9_item_9 : decode cX9_item 9 = .ok (.ireturn, 1) := by decide +kernel
theorem dX9_item_10 : decode cX9_item 10 = .ok (.aload_n 0, 1) := by decide +kernel
theorem dX9_item_11 : decode cX9_item 11 = .ok (.getfield 60, 3) := by decide +kernel
theorem dX9_item_14 : decode cX9_item 14 = .ok (.iload_n 1, 1) := by decide +kernel
theorem dX9_item_15 : decode cX9_item 15 = .ok (.iaload, 1) := by decide +kernel
theorem dX9_item_16 : decode cX9_item 16 = .ok (.ifCond .ne 6, 3) := by decide +kernel
theorem dX9_item_19 : decode cX9_item 19 = .ok (.ldc 220, 2) := by decide +kernel
theorem dX9_item_21 : decode cX9_item 21 = .ok (.ireturn, 1) := by decide +kernel
theorem dX9_item_22 : decode cX9_item 22 = .ok (.aload_n 0, 1) := by decide +kernel
theorem dX9_item_23 : decode cX9_item 23 = .ok (.getfield 60, 3) := by decide +kernel
theorem dX9_item_26 : decode cX9_item 26 = .ok (.iload_n 1, 1) := by decide +kernel
theorem dX9_item_27 : decode cX9_item 27 = .ok (.iaload, 1) := by decide +kernel
theorem dX9_item_28 : decode cX9_item 28 = .ok (.iconst 2, 1) := by decide +kernel
theorem dX9_item_29 : decode cX9_item 29 = .ok (.if_icmp .eq 6, 3) := by decide +kernel
theorem dX9_item_32 : decode cX9_item 32 = .ok (.ldc 142, 2) := by decide +kernel
theorem dX9_item_34 : decode cX9_item 34 = .ok (.ireturn, 1) := by decide +kernel
theorem dX9_item_35 : decode cX9_item 35 = .ok (.iload_n 2, 1) := by decide +kernel
theorem dX9_item_36 : decode cX9_item 36 = .ok (.iconst 0, 1) := by decide +kernel
theorem dX9_item_37 : decode cX9_item 37 = .ok (.aload_n 0, 1) := by decide +kernel
theorem dX9_item_38 : decode cX9_item 38 = .ok (.getfield 63, 3) := by decide +kernel
theorem dX9_item_41 : decode cX9_item 41 = .ok (.iload_n 1, 1) := by decide +kernel
theorem dX9_item_42 : decode cX9_item 42 = .ok (.iaload, 1) := by decide +kernel
theorem dX9_item_43 : decode cX9_item 43 = .ok (.iconst 1, 1) := by decide +kernel
theorem dX9_item_44 : decode cX9_item 44 = .ok (.isub, 1) := by decide +kernel
theorem dX9_item_45 : decode cX9_item 45 = .ok (.invokestatic 79, 3) := by decide +kernel
theorem dX9_item_48 : decode cX9_item 48 = .ok (.ifCond .ne 7, 3) := by decide +kernel
theorem dX9_item_51 : decode cX9_item 51 = .ok (.ldc_w 288, 3) := by decide +kernel
theorem dX9_item_54 : decode cX9_item 54 = .ok (.ireturn, 1) := by decide +kernel
theorem dX9_item_55 : decode cX9_item 55 = .ok (.aload_n 0, 1) := by decide +kernel
theorem dX9_item_56 : decode cX9_item 56 = .ok (.getfield 69, 3) := by decide +kernel
theorem dX9_item_59 : decode cX9_item 59 = .ok (.bipush 24, 2) := by decide +kernel
theorem dX9_item_61 : decode cX9_item 61 = .ok (.iload_n 1, 1) := by decide +kernel
theorem dX9_item_62 : decode cX9_item 62 = .ok (.imul, 1) := by decide +kernel
theorem dX9_item_63 : decode cX9_item 63 = .ok (.iload_n 2, 1) := by decide +kernel
theorem dX9_item_64 : decode cX9_item 64 = .ok (.iadd, 1) := by decide +kernel
theorem dX9_item_65 : decode cX9_item 65 = .ok (.iaload, 1) := by decide +kernel
theorem dX9_item_66 : decode cX9_item 66 = .ok (.istore_n 3, 1) := by decide +kernel
theorem dX9_item_67 : decode cX9_item 67 = .ok (.iload_n 3, 1) := by decide +kernel
theorem dX9_item_68 : decode cX9_item 68 = .ok (.ldc 78, 2) := by decide +kernel
theorem dX9_item_70 : decode cX9_item 70 = .ok (.if_icmp .ne 8, 3) := by decide +kernel
theorem dX9_item_73 : decode cX9_item 73 = .ok (.ldc 142, 2) := by decide +kernel
theorem dX9_item_75 : decode cX9_item 75 = .ok (.goto 4, 3) := by decide +kernel
theorem dX9_item_78 : decode cX9_item 78 = .ok (.iload_n 3, 1) := by decide +kernel
theorem dX9_item_79 : decode cX9_item 79 = .ok (.ireturn, 1) := by decide +kernel
theorem dX9_rest_0 : decode cX9_rest 0 = .ok (.iload_n 1, 1) := by decide +kernel
theorem dX9_rest_1 : decode cX9_rest 1 = .ok (.invokestatic 291, 3) := by decide +kernel
theorem dX9_rest_4 : decode cX9_rest 4 = .ok (.ifCond .ne 6, 3) := by decide +kernel
theorem dX9_rest_7 : decode cX9_rest 7 = .ok (.ldc 118, 2) := by decide +kernel
theorem dX9_rest_9 : decode cX9_rest 9 = .ok (.ireturn, 1) := by decide +kernel
theorem dX9_rest_10 : decode cX9_rest 10 = .ok (.aload_n 0, 1) := by decide +kernel
theorem dX9_rest_11 : decode cX9_rest 11 = .ok (.getfield 60, 3) := by decide +kernel
theorem dX9_rest_14 : decode cX9_rest 14 = .ok (.iload_n 1, 1) := by decide +kernel
theorem dX9_rest_15 : decode cX9_rest 15 = .ok (.iaload, 1) := by decide +kernel
theorem dX9_rest_16 : decode cX9_rest 16 = .ok (.ifCond .ne 6, 3) := by decide +kernel
theorem dX9_rest_19 : decode cX9_rest 19 = .ok (.ldc 220, 2) := by decide +kernel
theorem dX9_rest_21 : decode cX9_rest 21 = .ok (.ireturn, 1) := by decide +kernel
theorem dX9_rest_22 : decode cX9_rest 22 = .ok (.aload_n 0, 1) := by decide +kernel
theorem dX9_rest_23 : decode cX9_rest 23 = .ok (.getfield 60, 3) := by decide +kernel
theorem dX9_rest_26 : decode cX9_rest 26 = .ok (.iload_n 1, 1) := by decide +kernel
theorem dX9_rest_27 : decode cX9_rest 27 = .ok (.iaload, 1) := by decide +kernel
theorem dX9_rest_28 : decode cX9_rest 28 = .ok (.iconst 3, 1) := by decide +kernel
theorem dX9_rest_29 : decode cX9_rest 29 = .ok (.if_icmp .eq 6, 3) := by decide +kernel
theorem dX9_rest_32 : decode cX9_rest 32 = .ok (.ldc 142, 2) := by decide +kernel
theorem dX9_rest_34 : decode cX9_rest 34 = .ok (.ireturn, 1) := by decide +kernel
theorem dX9_rest_35 : decode cX9_rest 35 = .ok (.iload_n 2, 1) := by decide +kernel
theorem dX9_rest_36 : decode cX9_rest 36 = .ok (.ifCond .ne 8, 3) := by decide +kernel
theorem dX9_rest_39 : decode cX9_rest 39 = .ok (.ldc 143, 2) := by decide +kernel
theorem dX9_rest_41 : decode cX9_rest 41 = .ok (.goto 20, 3) := by decide +kernel
theorem dX9_rest_44 : decode cX9_rest 44 = .ok (.iload_n 2, 1) := by decide +kernel
theorem dX9_rest_45 : decode cX9_rest 45 = .ok (.iconst (-1), 1) := by decide +kernel
theorem dX9_rest_46 : decode cX9_rest 46 = .ok (.if_icmp .ne 7, 3) := by decide +kernel
theorem dX9_rest_49 : decode cX9_rest 49 = .ok (.iconst 0, 1) := by decide +kernel
theorem dX9_rest_50 : decode cX9_rest 50 = .ok (.goto 11, 3) := by decide +kernel
theorem dX9_rest_53 : decode cX9_rest 53 = .ok (.aload_n 0, 1) := by decide +kernel
theorem dX9_rest_54 : decode cX9_rest 54 = .ok (.getfield 63, 3) := by decide +kernel
theorem dX9_rest_57 : decode cX9_rest 57 = .ok (.iload_n 1, 1) := by decide +kernel
theorem dX9_rest_58 : decode cX9_rest 58 = .ok (.iaload, 1) := by decide +kernel
theorem dX9_rest_59 : decode cX9_rest 59 = .ok (.iload_n 2, 1) := by decide +kernel
theorem dX9_rest_60 : decode cX9_rest 60 = .ok (.irem, 1) := by decide +kernel
theorem dX9_rest_61 : decode cX9_rest 61 = .ok (.ireturn, 1) := by decide +kernel
theorem dX9_tell_0 : decode cX9_tell 0 = .ok (.aload_n 0, 1) := by decide +kernel
theorem dX9_tell_1 : decode cX9_tell 1 = .ok (.getfield 294, 3) := by decide +kernel
theorem dX9_tell_4 : decode cX9_tell 4 = .ok (.bipush 60, 2) := by decide +kernel
theorem dX9_tell_6 : decode cX9_tell 6 = .ok (.if_icmp .ne 6, 3) := by decide +kernel
theorem dX9_tell_9 : decode cX9_tell 9 = .ok (.ldc 126, 2) := by decide +kernel
theorem dX9_tell_11 : decode cX9_tell 11 = .ok (.ireturn, 1) := by decide +kernel
theorem dX9_tell_12 : decode cX9_tell 12 = .ok (.aload_n 0, 1) := by decide +kernel
theorem dX9_tell_13 : decode cX9_tell 13 = .ok (.getfield 75, 3) := by decide +kernel
theorem dX9_tell_16 : decode cX9_tell 16 = .ok (.aload_n 0, 1) := by decide +kernel
theorem dX9_tell_17 : decode cX9_tell 17 = .ok (.getfield 294, 3) := by decide +kernel
theorem dX9_tell_20 : decode cX9_tell 20 = .ok (.iload_n 1, 1) := by decide +kernel
theorem dX9_tell_21 : decode cX9_tell 21 = .ok (.iastore, 1) := by decide +kernel
theorem dX9_tell_22 : decode cX9_tell 22 = .ok (.aload_n 0, 1) := by decide +kernel
theorem dX9_tell_23 : decode cX9_tell 23 = .ok (.dup, 1) := by decide +kernel
theorem dX9_tell_24 : decode cX9_tell 24 = .ok (.getfield 294, 3) := by decide +kernel
theorem dX9_tell_27 : decode cX9_tell 27 = .ok (.iconst 1, 1) := by decide +kernel
theorem dX9_tell_28 : decode cX9_tell 28 = .ok (.iadd, 1) := by decide +kernel
theorem dX9_tell_29 : decode cX9_tell 29 = .ok (.putfield 294, 3) := by decide +kernel
theorem dX9_tell_32 : decode cX9_tell 32 = .ok (.aload_n 0, 1) := by decide +kernel
theorem dX9_tell_33 : decode cX9_tell 33 = .ok (.getfield 294, 3) := by decide +kernel
theorem dX9_tell_36 : decode cX9_tell 36 = .ok (.ireturn, 1) := by decide +kernel
theorem dX9_check_0 : decode cX9_check 0 = .ok (.aload_n 0, 1) := by decide +kernel
theorem dX9_check_1 : decode cX9_check 1 = .ok (.getfield 294, 3) := by decide +kernel
theorem dX9_check_4 : decode cX9_check 4 = .ok (.istore_n 2, 1) := by decide +kernel
theorem dX9_check_5 : decode cX9_check 5 = .ok (.aload_n 0, 1) := by decide +kernel
theorem dX9_check_6 : decode cX9_check 6 = .ok (.iconst 0, 1) := by decide +kernel
theorem dX9_check_7 : decode cX9_check 7 = .ok (.putfield 294, 3) := by decide +kernel
theorem dX9_check_10 : decode cX9_check 10 = .ok (.iload_n 1, 1) := by decide +kernel
theorem dX9_check_11 : decode cX9_check 11 = .ok (.iconst 1, 1) := by decide +kernel
theorem dX9_check_12 : decode cX9_check 12 = .ok (.bipush 30, 2) := by decide +kernel
theorem dX9_check_14 : decode cX9_check 14 = .ok (.invokestatic 79, 3) := by decide +kernel
theorem dX9_check_17 : decode cX9_check 17 = .ok (.ifCond .ne 6, 3) := by decide +kernel
theorem dX9_check_20 : decode cX9_check 20 = .ok (.ldc 118, 2) := by decide +kernel
theorem dX9_check_22 : decode cX9_check 22 = .ok (.ireturn, 1) := by decide +kernel
theorem dX9_check_23 : decode cX9_check 23 = .ok (.aload_n 0, 1) := by decide +kernel
theorem dX9_check_24 : decode cX9_check 24 = .ok (.getfield 297, 3) := by decide +kernel
theorem dX9_check_27 : decode cX9_check 27 = .ok (.ifCond .ne 6, 3) := by decide +kernel
theorem dX9_check_30 : decode cX9_check 30 = .ok (.ldc 143, 2) := by decide +kernel
theorem dX9_check_32 : decode cX9_check 32 = .ok (.ireturn, 1) := by decide +kernel
theorem dX9_check_33 : decode cX9_check 33 = .ok (.aload_n 0, 1) := by decide +kernel
theorem dX9_check_34 : decode cX9_check 34 = .ok (.getfield 9, 3) := by decide +kernel
theorem dX9_check_37 : decode cX9_check 37 = .ok (.aload_n 0, 1) := by decide +kernel
theorem dX9_check_38 : decode cX9_check 38 = .ok (.getfield 16, 3) := by decide +kernel
theorem dX9_check_41 : decode cX9_check 41 = .ok (.invokestatic 301, 3) := by decide +kernel
theorem dX9_check_44 : decode cX9_check 44 = .ok (.aload_n 0, 1) := by decide +kernel
theorem dX9_check_45 : decode cX9_check 45 = .ok (.getfield 13, 3) := by decide +kernel
theorem dX9_check_48 : decode cX9_check 48 = .ok (.aload_n 0, 1) := by decide +kernel
theorem dX9_check_49 : decode cX9_check 49 = .ok (.getfield 9, 3) := by decide +kernel
theorem dX9_check_52 : decode cX9_check 52 = .ok (.invokestatic 301, 3) := by decide +kernel
theorem dX9_check_55 : decode cX9_check 55 = .ok (.iconst 2, 1) := by decide +kernel
theorem dX9_check_56 : decode cX9_check 56 = .ok (.sipush 9999, 3) := by decide +kernel
theorem dX9_check_59 : decode cX9_check 59 = .ok (.aload_n 0, 1) := by decide +kernel
theorem dX9_check_60 : decode cX9_check 60 = .ok (.getfield 9, 3) := by decide +kernel
theorem dX9_check_63 : decode cX9_check 63 = .ok (.iconst 5, 1) := by decide +kernel
theorem dX9_check_64 : decode cX9_check 64 = .ok (.iaload, 1) := by decide +kernel
theorem dX9_check_65 : decode cX9_check 65 = .ok (.isub, 1) := by decide +kernel
theorem dX9_check_66 : decode cX9_check 66 = .ok (.iconst 0, 1) := by decide +kernel
theorem dX9_check_67 : decode cX9_check 67 = .ok (.iload_n 1, 1) := by decide +kernel
theorem dX9_check_68 : decode cX9_check 68 = .ok (.invokestatic 153, 3) := by decide +kernel
theorem dX9_check_71 : decode cX9_check 71 = .ok (.imul, 1) := by decide +kernel
theorem dX9_check_72 : decode cX9_check 72 = .ok (.istore_n 3, 1) := by decide +kernel
theorem dX9_check_73 : decode cX9_check 73 = .ok (.iconst 0, 1) := by decide +kernel
theorem dX9_check_74 : decode cX9_check 74 = .ok (.istore 4, 2) := by decide +kernel
theorem dX9_check_76 : decode cX9_check 76 = .ok (.iconst 0, 1) := by decide +kernel
theorem dX9_check_77 : decode cX9_check 77 = .ok (.istore 5, 2) := by decide +kernel
theorem dX9_check_79 : decode cX9_check 79 = .ok (.iconst 2, 1) := by decide +kernel
theorem dX9_check_80 : decode cX9_check 80 = .ok (.iload 5, 2) := by decide +kernel
theorem dX9_check_82 : decode cX9_check 82 = .ok (.imul, 1) := by decide +kernel
theorem dX9_check_83 : decode cX9_check 83 = .ok (.iload_n 3, 1) := by decide +kernel
theorem dX9_check_84 : decode cX9_check 84 = .ok (.if_icmp .ge 96, 3) := by decide +kernel
theorem dX9_check_87 : decode cX9_check 87 = .ok (.iload 4, 2) := by decide +kernel
theorem dX9_check_89 : decode cX9_check 89 = .ok (.iconst 2, 1) := by decide +kernel
theorem dX9_check_90 : decode cX9_check 90 = .ok (.iload 5, 2) := by decide +kernel
theorem dX9_check_92 : decode cX9_check 92 = .ok (.imul, 1) := by decide +kernel
theorem dX9_check_93 : decode cX9_check 93 = .ok (.if_icmp .ne 87, 3) := by decide +kernel
theorem dX9_check_96 : decode cX9_check 96 = .ok (.aload_n 0, 1) := by decide +kernel
theorem dX9_check_97 : decode cX9_check 97 = .ok (.invokevirtual 186, 3) := by decide +kernel
theorem dX9_check_100 : decode cX9_check 100 = .ok (.iload 4, 2) := by decide +kernel
theorem dX9_check_102 : decode cX9_check 102 = .ok (.iload 4, 2) := by decide +kernel
theorem dX9_check_104 : decode cX9_check 104 = .ok (.iload_n 2, 1) := by decide +kernel
theorem dX9_check_105 : decode cX9_check 105 = .ok (.if_icmp .ge 21, 3) := by decide +kernel
theorem dX9_check_108 : decode cX9_check 108 = .ok (.aload_n 0, 1) := by decide +kernel
theorem dX9_check_109 : decode cX9_check 109 = .ok (.getfield 75, 3) := by decide +kernel
theorem dX9_check_112 : decode cX9_check 112 = .ok (.iload 4, 2) := by decide +kernel
theorem dX9_check_114 : decode cX9_check 114 = .ok (.iaload, 1) := by decide +kernel
theorem dX9_check_115 : decode cX9_check 115 = .ok (.aload_n 0, 1) := by decide +kernel
theorem dX9_check_116 : decode cX9_check 116 = .ok (.invokevirtual 111, 3) := by decide +kernel
theorem dX9_check_119 : decode cX9_check 119 = .ok (.if_icmp .ne 7, 3) := by decide +kernel
theorem dX9_check_122 : decode cX9_check 122 = .ok (.iconst 1, 1) := by decide +kernel
theorem dX9_check_123 : decode cX9_check 123 = .ok (.goto 4, 3) := by decide +kernel
theorem dX9_check_126 : decode cX9_check 126 = .ok (.iconst 0, 1) := by decide +kernel
theorem dX9_check_127 : decode cX9_check 127 = .ok (.iadd, 1) := by decide +kernel
theorem dX9_check_128 : decode cX9_check 128 = .ok (.istore 4, 2) := by decide +kernel
theorem dX9_check_130 : decode cX9_check 130 = .ok (.iload 4, 2) := by decide +kernel
theorem dX9_check_132 : decode cX9_check 132 = .ok (.iload 4, 2) := by decide +kernel
theorem dX9_check_134 : decode cX9_check 134 = .ok (.iconst 2, 1) := by decide +kernel
theorem dX9_check_135 : decode cX9_check 135 = .ok (.iload 5, 2) := by decide +kernel
theorem dX9_check_137 : decode cX9_check 137 = .ok (.imul, 1) := by decide +kernel
theorem dX9_check_138 : decode cX9_check 138 = .ok (.iconst 1, 1) := by decide +kernel
theorem dX9_check_139 : decode cX9_check 139 = .ok (.iadd, 1) := by decide +kernel
theorem dX9_check_140 : decode cX9_check 140 = .ok (.if_icmp .ne 30, 3) := by decide +kernel
theorem dX9_check_143 : decode cX9_check 143 = .ok (.iload 4, 2) := by decide +kernel
theorem dX9_check_145 : decode cX9_check 145 = .ok (.iload_n 2, 1) := by decide +kernel
theorem dX9_check_146 : decode cX9_check 146 = .ok (.if_icmp .ge 24, 3) := by decide +kernel
theorem dX9_check_149 : decode cX9_check 149 = .ok (.aload_n 0, 1) := by decide +kernel
theorem dX9_check_150 : decode cX9_check 150 = .ok (.getfield 75, 3) := by decide +kernel
theorem dX9_check_153 : decode cX9_check 153 = .ok (.iload 4, 2) := by decide +kernel
theorem dX9_check_155 : decode cX9_check 155 = .ok (.iaload, 1) := by decide +kernel
theorem dX9_check_156 : decode cX9_check 156 = .ok (.aload_n 0, 1) := by decide +kernel
theorem dX9_check_157 : decode cX9_check 157 = .ok (.getfield 9, 3) := by decide +kernel
theorem dX9_check_160 : decode cX9_check 160 = .ok (.bipush 10, 2) := by decide +kernel
theorem dX9_check_162 : decode cX9_check 162 = .ok (.iaload, 1) := by decide +kernel
theorem dX9_check_163 : decode cX9_check 163 = .ok (.if_icmp .ne 7, 3) := by decide +kernel
theorem dX9_check_166 : decode cX9_check 166 = .ok (.iconst 1, 1) := by decide +kernel
theorem dX9_check_167 : decode cX9_check 167 = .ok (.goto 4, 3) := by decide +kernel
theorem dX9_check_170 : decode cX9_check 170 = .ok (.iconst 0, 1) := by decide +kernel
theorem dX9_check_171 : decode cX9_check 171 = .ok (.iadd, 1) := by decide +kernel
theorem dX9_check_172 : decode cX9_check 172 = .ok (.istore 4, 2) := by decide +kernel
theorem dX9_check_174 : decode cX9_check 174 = .ok (.iinc 5 1, 3) := by decide +kernel
theorem dX9_check_177 : decode cX9_check 177 = .ok (.goto (-98), 3) := by decide +kernel
theorem dX9_check_180 : decode cX9_check 180 = .ok (.aload_n 0, 1) := by decide +kernel
theorem dX9_check_181 : decode cX9_check 181 = .ok (.getfield 16, 3) := by decide +kernel
theorem dX9_check_184 : decode cX9_check 184 = .ok (.aload_n 0, 1) := by decide +kernel
theorem dX9_check_185 : decode cX9_check 185 = .ok (.getfield 9, 3) := by decide +kernel
theorem dX9_check_188 : decode cX9_check 188 = .ok (.invokestatic 301, 3) := by decide +kernel
theorem dX9_check_191 : decode cX9_check 191 = .ok (.iload 4, 2) := by decide +kernel
theorem dX9_check_193 : decode cX9_check 193 = .ok (.iload_n 2, 1) := by decide +kernel
theorem dX9_check_194 : decode cX9_check 194 = .ok (.if_icmp .ne 13, 3) := by decide +kernel
theorem dX9_check_197 : decode cX9_check 197 = .ok (.iload 4, 2) := by decide +kernel
theorem dX9_check_199 : decode cX9_check 199 = .ok (.iload_n 3, 1) := by decide +kernel
theorem dX9_check_200 : decode cX9_check 200 = .ok (.if_icmp .ne 7, 3) := by decide +kernel
theorem dX9_check_203 : decode cX9_check 203 = .ok (.iconst 0, 1) := by decide +kernel
theorem dX9_check_204 : decode cX9_check 204 = .ok (.goto 7, 3) := by decide +kernel
theorem dX9_check_207 : decode cX9_check 207 = .ok (.iconst 1, 1) := by decide +kernel
theorem dX9_check_208 : decode cX9_check 208 = .ok (.iload 4, 2) := by decide +kernel
theorem dX9_check_210 : decode cX9_check 210 = .ok (.iadd, 1) := by decide +kernel
theorem dX9_check_211 : decode cX9_check 211 = .ok (.ireturn, 1) := by decide +kernel
theorem dX9_keep_0 : decode cX9_keep 0 = .ok (.aload_n 0, 1) := by decide +kernel
theorem dX9_keep_1 : decode cX9_keep 1 = .ok (.getfield 9, 3) := by decide +kernel
theorem dX9_keep_4 : decode cX9_keep 4 = .ok (.aload_n 0, 1) := by decide +kernel
theorem dX9_keep_5 : decode cX9_keep 5 = .ok (.getfield 13, 3) := by decide +kernel
theorem dX9_keep_8 : decode cX9_keep 8 = .ok (.invokestatic 301, 3) := by decide +kernel
theorem dX9_keep_11 : decode cX9_keep 11 = .ok (.aload_n 0, 1) := by decide +kernel
theorem dX9_keep_12 : decode cX9_keep 12 = .ok (.iconst 1, 1) := by decide +kernel
theorem dX9_keep_13 : decode cX9_keep 13 = .ok (.putfield 297, 3) := by decide +kernel
theorem dX9_keep_16 : decode cX9_keep 16 = .ok (.aload_n 0, 1) := by decide +kernel
theorem dX9_keep_17 : decode cX9_keep 17 = .ok (.getfield 9, 3) := by decide +kernel
theorem dX9_keep_20 : decode cX9_keep 20 = .ok (.iconst 1, 1) := by decide +kernel
theorem dX9_keep_21 : decode cX9_keep 21 = .ok (.iaload, 1) := by decide +kernel
theorem dX9_keep_22 : decode cX9_keep 22 = .ok (.ireturn, 1) := by decide +kernel
theorem dX9_back_0 : decode cX9_back 0 = .ok (.aload_n 0, 1) := by decide +kernel
theorem dX9_back_1 : decode cX9_back 1 = .ok (.getfield 297, 3) := by decide +kernel
theorem dX9_back_4 : decode cX9_back 4 = .ok (.ifCond .ne 6, 3) := by decide +kernel
theorem dX9_back_7 : decode cX9_back 7 = .ok (.ldc 143, 2) := by decide +kernel
theorem dX9_back_9 : decode cX9_back 9 = .ok (.ireturn, 1) := by decide +kernel
theorem dX9_back_10 : decode cX9_back 10 = .ok (.aload_n 0, 1) := by decide +kernel
theorem dX9_back_11 : decode cX9_back 11 = .ok (.getfield 13, 3) := by decide +kernel
theorem dX9_back_14 : decode cX9_back 14 = .ok (.aload_n 0, 1) := by decide +kernel
theorem dX9_back_15 : decode cX9_back 15 = .ok (.getfield 9, 3) := by decide +kernel
theorem dX9_back_18 : decode cX9_back 18 = .ok (.invokestatic 301, 3) := by decide +kernel
theorem dX9_back_21 : decode cX9_back 21 = .ok (.aload_n 0, 1) := by decide +kernel
theorem dX9_back_22 : decode cX9_back 22 = .ok (.getfield 9, 3) := by decide +kernel
theorem dX9_back_25 : decode cX9_back 25 = .ok (.iconst 1, 1) := by decide +kernel
theorem dX9_back_26 : decode cX9_back 26 = .ok (.iaload, 1) := by decide +kernel
theorem dX9_back_27 : decode cX9_back 27 = .ok (.ireturn, 1) := by decide +kernel
theorem dX9_count_0 : decode cX9_count 0 = .ok (.iload_n 1, 1) := by decide +kernel
theorem dX9_count_1 : decode cX9_count 1 = .ok (.iconst 1, 1) := by decide +kernel
theorem dX9_count_2 : decode cX9_count 2 = .ok (.bipush 8, 2) := by decide +kernel
theorem dX9_count_4 : decode cX9_count 4 = .ok (.invokestatic 79, 3) := by decide +kernel
theorem dX9_count_7 : decode cX9_count 7 = .ok (.ifCond .eq 14, 3) := by decide +kernel
theorem dX9_count_10 : decode cX9_count 10 = .ok (.aload_n 0, 1) := by decide +kernel
theorem dX9_count_11 : decode cX9_count 11 = .ok (.getfield 9, 3) := by decide +kernel
theorem dX9_count_14 : decode cX9_count 14 = .ok (.iconst 2, 1) := by decide +kernel
theorem dX9_count_15 : decode cX9_count 15 = .ok (.iload_n 1, 1) := by decide +kernel
theorem dX9_count_16 : decode cX9_count 16 = .ok (.iadd, 1) := by decide +kernel
theorem dX9_count_17 : decode cX9_count 17 = .ok (.iconst 1, 1) := by decide +kernel
theorem dX9_count_18 : decode cX9_count 18 = .ok (.isub, 1) := by decide +kernel
theorem dX9_count_19 : decode cX9_count 19 = .ok (.iaload, 1) := by decide +kernel
theorem dX9_count_20 : decode cX9_count 20 = .ok (.ireturn, 1) := by decide +kernel
theorem dX9_count_21 : decode cX9_count 21 = .ok (.iload_n 1, 1) := by decide +kernel
theorem dX9_count_22 : decode cX9_count 22 = .ok (.tableswitch 98 0 12 #[66, 98, 98, 98, 98, 98, 98, 98, 98, 73, 81, 86, 91], 66) := by decide +kernel
theorem dX9_count_88 : decode cX9_count 88 = .ok (.aload_n 0, 1) := by decide +kernel
theorem dX9_count_89 : decode cX9_count 89 = .ok (.getfield 9, 3) := by decide +kernel
theorem dX9_count_92 : decode cX9_count 92 = .ok (.iconst 1, 1) := by decide +kernel
theorem dX9_count_93 : decode cX9_count 93 = .ok (.iaload, 1) := by decide +kernel
theorem dX9_count_94 : decode cX9_count 94 = .ok (.ireturn, 1) := by decide +kernel
theorem dX9_count_95 : decode cX9_count 95 = .ok (.aload_n 0, 1) := by decide +kernel
theorem dX9_count_96 : decode cX9_count 96 = .ok (.getfield 9, 3) := by decide +kernel
theorem dX9_count_99 : decode cX9_count 99 = .ok (.bipush 11, 2) := by decide +kernel
theorem dX9_count_101 : decode cX9_count 101 = .ok (.iaload, 1) := by decide +kernel
theorem dX9_count_102 : decode cX9_count 102 = .ok (.ireturn, 1) := by decide +kernel
theorem dX9_count_103 : decode cX9_count 103 = .ok (.aload_n 0, 1) := by decide +kernel
theorem dX9_count_104 : decode cX9_count 104 = .ok (.getfield 294, 3) := by decide +kernel
theorem dX9_count_107 : decode cX9_count 107 = .ok (.ireturn, 1) := by decide +kernel
theorem dX9_count_108 : decode cX9_count 108 = .ok (.aload_n 0, 1) := by decide +kernel
theorem dX9_count_109 : decode cX9_count 109 = .ok (.getfield 221, 3) := by decide +kernel
theorem dX9_count_112 : decode cX9_count 112 = .ok (.ireturn, 1) := by decide +kernel
theorem dX9_count_113 : decode cX9_count 113 = .ok (.aload_n 0, 1) := by decide +kernel
theorem dX9_count_114 : decode cX9_count 114 = .ok (.getfield 9, 3) := by decide +kernel
theorem dX9_count_117 : decode cX9_count 117 = .ok (.iconst 0, 1) := by decide +kernel
theorem dX9_count_118 : decode cX9_count 118 = .ok (.iaload, 1) := by decide +kernel
theorem dX9_count_119 : decode cX9_count 119 = .ok (.ireturn, 1) := by decide +kernel
theorem dX9_count_120 : decode cX9_count 120 = .ok (.ldc 118, 2) := by decide +kernel
theorem dX9_count_122 : decode cX9_count 122 = .ok (.ireturn, 1) := by decide +kernel
end
section
/-! THE FLAT WORLD: cell k lies at address B + k; kind, length, ints, refs, number of cells -/
abbrev Wd : Type := (Nat → Nat) × (Nat → Nat) × (Nat → Nat → Int32) × (Nat → Nat → Option Nat) × Nat
def wK (w : Wd) (a : Nat) : Nat := w.1 a
def wL (w : Wd) (a : Nat) : Nat := w.2.1 a
def wI (w : Wd) (a j : Nat) : Int32 := w.2.2.1 a j
def wR (w : Wd) (a j : Nat) : Option Nat := w.2.2.2.1 a j
def wN (w : Wd) : Nat := w.2.2.2.2
/-- a whole row of ints -/
def sF (w : Wd) (a : Nat) (f : Nat → Int32) : Wd := (w.1, w.2.1, va_up w.2.2.1 a f, w.2.2.2.1, w.2.2.2.2)
def sI (w : Wd) (a j : Nat) (v : Int32) : Wd := sF w a (upd (wI w a) j v)
def sR (w : Wd) (a j : Nat) (v : Option Nat) : Wd := (w.1, w.2.1, w.2.2.1, va_up w.2.2.2.1 a (va_up (w.2.2.2.1 a) j v), w.2.2.2.2)
/-- one more cell, of a kind and a length, all zero -/
def nC (w : Wd) (k n : Nat) : Wd := (va_up w.1 w.2.2.2.2 k, va_up w.2.1 w.2.2.2.2 n, va_up w.2.2.1 w.2.2.2.2 (fun _ => 0), va_up w.2.2.2.1 w.2.2.2.2 (fun _ => none), w.2.2.2.2 + 1)
/-- which fields are references -/
def frL : List (List Bool) := [[false, false, false, false], [true, true, false, true, true, false, false, false, true, false, true], [true, true, false, false], [false, false, true], [false, false, false, false], [false, true, true, false], [true, false, false, false, false, false, false, true, false, false, true, false, false, false], [false, false, true, true], [true, true, true, false, true, true, true, true, true, false],
  [true, true, true, false, false, true, true, true, false, false, false, false, false, false, false, true, true, true, false, false, true, false, true, true, true, true, true, true, true, true, true, true, true, true, false]]
def frf (ci j : Nat) : Bool := (frL.getD ci []).getD j false
def fN (ci : Nat) : Nat := (frL.getD ci []).length
/-- the surroundings: the first address, classes and slots, array classes, outer addresses -/
abbrev Vt : Type := Nat × va_G × (Nat → ClassId) × (Nat → Nat)
abbrev AA (V : Vt) : Nat → Prop := fun q => V.1 ≤ q
abbrev rf (V : Vt) (a : Nat) : Value := .ref (V.1 + a)
def rq (V : Vt) (o : Option Nat) : Value := va_rf (o.map (fun k => V.1 + k))
theorem rq_some (V : Vt) (a : Nat) : rq V (some a) = rf V a := rfl
theorem rq_none (V : Vt) : rq V none = .null := rfl
def fv (V : Vt) (w : Wd) (a ci j : Nat) : Value := if frf ci j = true then rq V (wR w a j) else .int (wI w a j)
def fvs (V : Vt) (w : Wd) (a ci : Nat) : List Value := (List.range (fN ci)).map (fv V w a ci)
def enc (V : Vt) (w : Wd) (a : Nat) : va_E :=
  if wK w a < 10 then .inr (wK w a, fvs V w a (wK w a))
  else if wK w a < 13 then .inl (V.2.2.1 (wK w a), wL w a, .inl (wI w a))
  else .inl (V.2.2.1 (wK w a), wL w a, .inr (.inr (.inr (.inr (fun i => (wR w a i).map (fun k => V.1 + k))))))
theorem enc_congr {V : Vt} {w w' : Wd} {b : Nat} (h1 : wK w' b = wK w b) (h2 : wL w' b = wL w b) (h3 : wI w' b = wI w b) (h4 : wR w' b = wR w b) : enc V w' b = enc V w b := by
  have hf : ∀ ci, fv V w' b ci = fv V w b ci := fun ci => by funext j; simp only [fv, h3, h4]
  simp only [enc, h1, h2, h3, h4, fvs, hf]
/-- the heap holds the world -/
def Rp (V : Vt) (w : Wd) (H : Heap) : Prop := H.size = V.1 + wN w ∧ (∀ a, a < wN w → va_at V.2.1 vwCl (V.1 + a, enc V w a) H) ∧ ∀ a, wN w ≤ a → wK w a = 99
theorem Rp.lt {V : Vt} {w : Wd} {H : Heap} (h : Rp V w H) {a k : Nat} (hk : wK w a = k) (h9 : k < 99) : a < wN w := by
  rcases Nat.lt_or_ge a (wN w) with q | q
  · exact q
  · have := h.2.2 a q; omega
theorem enc_obj {V : Vt} {w : Wd} {a k : Nat} (hk : wK w a = k) (h : k < 10) : enc V w a = .inr (k, fvs V w a k) := by
  subst hk; simp [enc, h]
theorem enc_int {V : Vt} {w : Wd} {a k : Nat} (hk : wK w a = k) (h : ¬ k < 10) (h2 : k < 13) : enc V w a = .inl (V.2.2.1 k, wL w a, .inl (wI w a)) := by
  subst hk; simp [enc, h, h2]
theorem enc_ref {V : Vt} {w : Wd} {a k : Nat} (hk : wK w a = k) (h2 : ¬ k < 13) : enc V w a = .inl (V.2.2.1 k, wL w a, .inr (.inr (.inr (.inr (fun i => (wR w a i).map (fun k => V.1 + k)))))) := by
  subst hk; simp [enc, h2, show ¬ wK w a < 10 by omega]
theorem Rp.obj {V : Vt} {w : Wd} {H : Heap} (h : Rp V w H) {a k : Nat} (hk : wK w a = k) (h9 : k < 10) : va_P V.2.1 vwCl [(V.1 + a, .inr (k, fvs V w a k))] H := by
  intro i q hq
  have hl := h.lt hk (by omega)
  have := h.2.1 a hl
  rw [enc_obj hk h9] at this
  have hz : i < 1 := (List.getElem?_eq_some_iff.mp hq).1
  rw [show i = 0 by omega] at hq
  cases hq
  exact this
theorem Rp.int {V : Vt} {w : Wd} {H : Heap} (h : Rp V w H) {a k : Nat} (hk : wK w a = k) (h1 : ¬ k < 10) (h2 : k < 13) : va_P V.2.1 vwCl [(V.1 + a, .inl (V.2.2.1 k, wL w a, .inl (wI w a)))] H := by
  intro i q hq
  have hl := h.lt hk (by omega)
  have := h.2.1 a hl
  rw [enc_int hk h1 h2] at this
  have hz : i < 1 := (List.getElem?_eq_some_iff.mp hq).1
  rw [show i = 0 by omega] at hq
  cases hq
  exact this
theorem Rp.refs {V : Vt} {w : Wd} {H : Heap} (h : Rp V w H) {a k : Nat} (hk : wK w a = k) (h1 : ¬ k < 13) (h2 : k < 99) : va_P V.2.1 vwCl [(V.1 + a, .inl (V.2.2.1 k, wL w a, .inr (.inr (.inr (.inr (fun i => (wR w a i).map (fun k => V.1 + k)))))))] H := by
  intro i q hq
  have hl := h.lt hk (by omega)
  have := h.2.1 a hl
  rw [enc_ref hk h1] at this
  have hz : i < 1 := (List.getElem?_eq_some_iff.mp hq).1
  rw [show i = 0 by omega] at hq
  cases hq
  exact this
/-- one cell is written -/
theorem Rp.set {V : Vt} {w w' : Wd} {H H1 : Heap} (h : Rp V w H) {a : Nat} (hl : a < wN w) (hn : wN w' = wN w) (hk : ∀ b, wK w' b = wK w b) (ho : ∀ b, b ≠ a → enc V w' b = enc V w b) (z : H1.size = H.size) (oq : ∀ q : Nat, q ≠ V.1 + a → H1[q]? = H[q]?) (he : va_at V.2.1 vwCl (V.1 + a, enc V w' a) H1) : Rp V w' H1 := by
  refine ⟨by rw [z, h.1, hn], fun b hb => ?_, fun b hb => by rw [hk]; exact h.2.2 b (by omega)⟩
  by_cases e : b = a
  · subst e; exact he
  · rw [ho b e]
    exact (h.2.1 b (by omega)).kept (oq _ (by show V.1 + b ≠ V.1 + a; omega))
/-- one cell comes -/
theorem Rp.new {V : Vt} {w : Wd} {H H1 : Heap} (h : Rp V w H) (k n : Nat) (z : H1.size = H.size + 1) (oq : ∀ q : Nat, q < H.size → H1[q]? = H[q]?) (he : va_at V.2.1 vwCl (V.1 + wN w, enc V (nC w k n) (wN w)) H1) : Rp V (nC w k n) H1 := by
  refine ⟨by rw [z, h.1]; rfl, fun b hb => ?_, fun b hb => ?_⟩
  · have hb : b < wN w + 1 := hb
    by_cases e : b = wN w
    · subst e; exact he
    · have e1 : b < wN w := by omega
      have e2 : enc V (nC w k n) b = enc V w b := by
        have e' : ¬ b = w.2.2.2.2 := e
        exact enc_congr (va_up_ne _ _ e') (va_up_ne _ _ e') (va_up_ne _ _ e') (va_up_ne _ _ e')
      rw [e2]
      refine (h.2.1 b e1).kept (oq _ ?_)
      show V.1 + b < H.size
      rw [h.1]; omega
  · have hb : wN w + 1 ≤ b := hb
    have e' : ¬ b = w.2.2.2.2 := by show ¬ b = wN w; omega
    have := h.2.2 b (by omega)
    simpa [nC, wK, va_up, e'] using this
theorem enc_sF {V : Vt} {w : Wd} {a b : Nat} {f : Nat → Int32} (h : b ≠ a) : enc V (sF w a f) b = enc V w b := enc_congr rfl rfl (va_up_ne _ _ h) rfl
theorem enc_sR {V : Vt} {w : Wd} {a j b : Nat} {v : Option Nat} (h : b ≠ a) : enc V (sR w a j v) b = enc V w b := enc_congr rfl rfl rfl (va_up_ne _ _ h)
theorem fvs_len (V : Vt) (w : Wd) (a ci : Nat) : (fvs V w a ci).length = fN ci := by simp [fvs]
theorem fvs_at {V : Vt} {w : Wd} {a ci j : Nat} (h : j < fN ci) : (fvs V w a ci)[j]? = some (fv V w a ci j) := by simp [fvs, h]
theorem fvs_sI {V : Vt} {w : Wd} {a ci j : Nat} (hf : frf ci j = false) (v : Int32) : (fvs V w a ci).set j (.int v) = fvs V (sI w a j v) a ci := by
  apply List.ext_getElem?
  intro i
  rw [List.getElem?_set]
  simp only [fvs_len]
  by_cases hi : i < fN ci
  · rw [fvs_at hi, fvs_at hi]
    by_cases e : j = i
    · subst e
      simp [hi, fv, hf, sI, sF, wI, va_up, upd]
    · have e2 : ¬ i = j := fun q => e q.symm
      simp [e, e2, fv, sI, sF, wI, wR, va_up, upd]
  · have h1 : (fvs V w a ci)[i]? = none := by simp [fvs]; omega
    have h2 : (fvs V (sI w a j v) a ci)[i]? = none := by simp [fvs]; omega
    rw [h1, h2]
    by_cases e : j = i
    · subst e; simp [hi]
    · simp [e]
theorem fvs_sR {V : Vt} {w : Wd} {a ci j : Nat} (hf : frf ci j = true) (v : Option Nat) : (fvs V w a ci).set j (rq V v) = fvs V (sR w a j v) a ci := by
  apply List.ext_getElem?
  intro i
  rw [List.getElem?_set]
  simp only [fvs_len]
  by_cases hi : i < fN ci
  · rw [fvs_at hi, fvs_at hi]
    by_cases e : j = i
    · subst e
      simp [hi, fv, hf, sR, wR, va_up]
    · have e2 : ¬ i = j := fun q => e q.symm
      simp [e, e2, fv, sR, wI, wR, va_up]
  · have h1 : (fvs V w a ci)[i]? = none := by simp [fvs]; omega
    have h2 : (fvs V (sR w a j v) a ci)[i]? = none := by simp [fvs]; omega
    rw [h1, h2]
    by_cases e : j = i
    · subst e; simp [hi]
    · simp [e]
/-! the words -/
def gw : List Cond := lw_tbl.filter goodWord
theorem gw_of {w : Cond} (i : Nat) (h : lw_tbl[i]? = some w) (hg : goodWord w = true) : w ∈ gw := List.mem_filter.mpr ⟨List.mem_of_getElem? h, hg⟩
abbrev wsM (y : MethodName) (bytes : ByteArray) (maxL : Nat) (ret : Option FieldType) : List Cond := Cond.code y bytes maxL ret :: gw
theorem gw_good : ∀ w ∈ gw, (w.onTables && w.keeps) = true ∨ ∃ ty, w = .arrayClass ty := fun w h => good_of_word (List.mem_filter.mp h).2
theorem gw_in {x : Cond} {y : MethodName} {bytes : ByteArray} {maxL : Nat} {ret : Option FieldType} (h : Cond.code y bytes maxL ret ∈ gw) : GoodIn (x :: gw) (wsM y bytes maxL ret) := by
  intro w hw
  rcases List.mem_cons.mp hw with e | e
  · subst e; exact ⟨List.mem_cons_of_mem _ h, gw_good _ h⟩
  · exact ⟨List.mem_cons_of_mem _ e, gw_good _ e⟩
/-! what stands outside the world, and the words that are no table's -/
def nwL : List Cond := [.methodLinkNest RX1 11 yX0_init RX8, .methodLinkNest RX1 45 yX4_init RX8, .methodLinkNest RX8 24 yX2_init RX8, .methodLinkNest RX8 31 yX6_init RX8, .methodLinkNest RX8 52 yX3_init RX8, .methodLinkNest RX8 53 yX5_init RX8, .methodLinkNest RX5 9 yX4_init RX8, .methodLinkNest RX5 18 yX3_init RX8, .methodLinkNest RX1 156 yX8_held RX8, .methodLinkNest RX1 198 yX8_has RX8, .methodLinkNest RX2 43 yX8_has RX8, .methodLinkNest RX3 28 yX8_isWithin RX8, .fieldLinkNest RX4 24 RX8 "KINDS_OF" "[I" RX8]
def aoL : List String := [RX4, RX7, RX3, RX5]
def kdL : List Int32 := [63, 10, 20, 8, 16, 32]
def rtL : List Int32 := [99, 2, 100, 100]
def stI (i : Nat) : Nat := [92, 98, 100, 123, 125, 127].getD i 0
def stT (i : Nat) : String := ["fare", "fee", "fine", "pcs", "tm", "ps"].getD i ""
def stN : List Nat := [4, 3, 4, 3, 2, 2]
def stB : List (List Int32) := [[102, 97, 114, 101], [102, 101, 101], [102, 105, 110, 101], [112, 99, 115], [116, 109], [112, 115]]
def Ot (V : Vt) (U : State) (H : Heap) : Prop :=
  (va_Z RX8 "KINDS_OF" "[I" (.ref (V.2.2.2 0)) (AA V) U H ∧ va_T .int (V.2.2.2 0) 6 (fun j => .int (kdL.getD j 0)) (AA V) U H) ∧
  (va_Z RX8 "RULE_TOPS" "[I" (.ref (V.2.2.2 1)) (AA V) U H ∧ va_T .int (V.2.2.2 1) 4 (fun j => .int (rtL.getD j 0)) (AA V) U H) ∧
  vk_S 6 stN stB (fun i => V.2.2.2 (10 + i)) (fun i => V.2.2.2 (20 + i)) (AA V) U H ∧
  va_Z "java/lang/String" "COMPACT_STRINGS" "Z" (.int 1) (AA V) U H ∧
  va_Zq "jdk/internal/util/Preconditions" "SIOOBE_FORMATTER" "Ljava/util/function/BiFunction;" (AA V) U H
def tyl (V : Vt) : List (ClassId × FieldType) := [(V.2.2.1 10, .char), (V.2.2.1 11, .int), (V.2.2.1 12, .boolean), (V.2.2.1 13, .object RX3), (V.2.2.1 14, .object RX4), (V.2.2.1 15, .object RX5), (V.2.2.1 16, .object RX7)]
def En (V : Vt) (U : State) : Prop := va_K V.2.1 vwCl (tyl V) U ∧ (∀ w ∈ nwL, va_Nw w U) ∧ (∀ C ∈ aoL, va_AO C U) ∧ (∀ i, i < 6 → vk_R RX6 (stI i) (stT i) (V.2.2.2 (10 + i)) U) ∧ Ot V U U.heap
theorem nw_warm {s U : State} (hW : s.WarmedH U.vm) (h : ∀ w ∈ nwL, va_Nw w s) : ∀ w ∈ nwL, va_Nw w U := by
  intro w hw
  have h1 := h w hw
  simp only [nwL, List.mem_cons, List.not_mem_nil, or_false] at hw
  rcases hw with rfl | rfl | rfl | rfl | rfl | rfl | rfl | rfl | rfl | rfl | rfl | rfl | rfl
  all_goals first | exact va_Nw.warmM hW h1 | exact va_Nw.warmF hW h1
theorem nw_same {s U : State} (hv : s.vm = U.vm) (h : ∀ w ∈ nwL, va_Nw w s) : ∀ w ∈ nwL, va_Nw w U := by
  intro w hw
  have h1 := h w hw
  simp only [nwL, List.mem_cons, List.not_mem_nil, or_false] at hw
  rcases hw with rfl | rfl | rfl | rfl | rfl | rfl | rfl | rfl | rfl | rfl | rfl | rfl | rfl
  all_goals exact va_Nw.same rfl hv h1
theorem Ot.moved {V : Vt} {u U : State} {H : Heap} (hvm : u.vm.Alike U.vm) (h : Ot V u H) : Ot V U H :=
  ⟨⟨h.1.1.moved hvm, h.1.2.moved hvm⟩, ⟨h.2.1.1.moved hvm, h.2.1.2.moved hvm⟩, h.2.2.1.moved hvm, h.2.2.2.1.moved hvm, h.2.2.2.2.moved hvm⟩
theorem Ot.kept {V : Vt} {U : State} {H H1 : Heap} (hq : ∀ a : Nat, a < H.size → ¬ AA V a → H1[a]? = H[a]?) (h : Ot V U H) : Ot V U H1 :=
  ⟨⟨h.1.1.kept hq, h.1.2.kept hq⟩, ⟨h.2.1.1.kept hq, h.2.1.2.kept hq⟩, h.2.2.1.kept hq, h.2.2.2.1.kept hq, h.2.2.2.2.kept hq⟩
theorem En.go {V : Vt} {s U : State} {H : Heap} {locs : List Loc} (h : En V s) (hS : va_S (AA V) s.heap H locs) (hU : U.heap = H) (hW : s.WarmedH U.vm) : En V U := by
  refine ⟨h.1.moved hW.alike, nw_warm hW h.2.1, fun C hC => (h.2.2.1 C hC).moved hW.alike, fun i hi => (h.2.2.2.1 i hi).warm hW, ?_⟩
  exact (h.2.2.2.2.kept (fun a h1 h2 => by rw [hU]; exact hS.2.1 a h1 h2)).moved hW.alike
theorem En.calling {V : Vt} {U : State} {g : JFrame} {mk : MethodId} {a : Array Value} (h : En V U) : En V (U.calling g mk a) :=
  ⟨va_K.moved (u := U) (U := U.calling g mk a) (Vm.Alike.refl U.vm) h.1, nw_same (s := U) (U := U.calling g mk a) rfl h.2.1, fun C hC => va_AO.moved (u := U) (U := U.calling g mk a) (Vm.Alike.refl U.vm) (h.2.2.1 C hC), fun i hi => vk_R.same (u := U) (U := U.calling g mk a) rfl (h.2.2.2.1 i hi), Ot.moved (u := U) (U := U.calling g mk a) (Vm.Alike.refl U.vm) h.2.2.2.2⟩
/-! contracts -/
def PcM (V : Vt) (w : Wd) (av : List Value) : Array Value → State → Prop := va_Pc av (fun U => En V U ∧ Rp V w U.heap)
def QcV (V : Vt) (ov : Option Value) (w' : Wd) : Array Value → State → Outcome → State → Prop := fun _ st oc t => oc = .returned ov ∧ Rp V w' t.heap ∧ va_F (AA V) st t
abbrev MetW (l : Launch) (V : Vt) (y : MethodName) (bytes : ByteArray) (maxL : Nat) (ret : Option FieldType) (rm : Room) (w : Wd) (av : List Value) (ov : Option Value) (w' : Wd) (mc ms : Nat) : Prop := Met l y (wsM y bytes maxL ret) rm (PcM V w av) (QcV V ov w') mc ms (AA V)
theorem PcM.blind (V : Vt) (w : Wd) (av : List Value) : FrameBlind (PcM V w av) := fun _ _ _ _ h => ⟨h.1, h.2.1.calling, h.2.2⟩
/-! the context of a walk -/
abbrev Ct : Type := Program × Launch × Env × Room × State × MethodId × Array Value × List Frame × Method × Code
abbrev Wt (t : Ct) (H : Heap) (locs : List Loc) (ce sl : Nat) (Q : State → Prop) (g : JFrame) : Prop := W t.1 t.2.1 t.2.2.1 t.2.2.2.1 t.2.2.2.2.1 t.2.2.2.2.2.1 t.2.2.2.2.2.2.1 t.2.2.2.2.2.2.2.1 t.2.2.2.2.2.2.2.2.1 t.2.2.2.2.2.2.2.2.2 H locs ce sl Q g
abbrev tS (t : Ct) : State := t.2.2.2.2.1
abbrev tM (t : Ct) : MethodId := t.2.2.2.2.2.1
abbrev tA (t : Ct) : Array Value := t.2.2.2.2.2.2.1
abbrev tR (t : Ct) : Room := t.2.2.2.1
abbrev tC (t : Ct) : Code := t.2.2.2.2.2.2.2.2.2
abbrev tMe (t : Ct) : Method := t.2.2.2.2.2.2.2.2.1
/-- what holds of it: the machine, the code, locals, the own class, the words, no lock, the surroundings -/
def Cx (t : Ct) (V : Vt) (cc : ByteArray) (nL : Nat) (own : String) : Prop := t.1.tables.exec = Jvm.exec ∧ (tC t).code = cc ∧ (tC t).maxLocals = nL ∧ (tS t).vm.findClass own = some (tM t).cls ∧ (∀ w ∈ gw, w.before (tA t) (tS t) = true) ∧ (tMe t).locks = false ∧ En V (tS t)
/-- the goal: from here, with any heap that holds the world -/
def Gd (t : Ct) (V : Vt) (nL ce sl : Nat) (Q : State → Prop) (pc : Nat) (lv : List (Nat × Value)) (st : List Value) (w : Wd) : Prop :=
  ∀ (H : Heap) (locs : List Loc) (ls : Array Slot), Rp V w H → va_S (AA V) (tS t).heap H locs → lv_has ls nL lv → Wt t H locs ce sl Q (F0 (tM t) pc ls st)
/-- the end of a walk -/
abbrev Qe (t : Ct) (V : Vt) (ov : Option Value) (w' : Wd) (mc ms : Nat) : State → Prop := MQ t.2.2.2.2.2.2.2.1 (QcV V ov w') (tA t) (tS t) mc ms (AA V)
end
section
/-! ROWS OF THE FLAT WORLD -/
section GR
variable {t : Ct} {V : Vt} {cc : ByteArray} {nL ce sl : Nat} {own : String} {Q : State → Prop} {pc : Nat} {lv : List (Nat × Value)} {st : List Value} {w : Wd}
theorem g_iconst (X : Cx t V cc nL own) {n : Int} {v : Int32} (d : decode cc pc = .ok (.iconst n, 1)) (hv : Int32.ofInt n = v) (k : Gd t V nL ce sl Q (pc + 1) lv (.int v :: st) w) : Gd t V nL ce sl Q pc lv st w :=
  fun H locs ls h1 h2 h3 => lv_iconst X.1 X.2.1 d hv (k H locs ls h1 h2 h3)
theorem g_bipush (X : Cx t V cc nL own) {n : Int} {v : Int32} (d : decode cc pc = .ok (.bipush n, 2)) (hv : (Int8.ofInt n).toInt32 = v) (k : Gd t V nL ce sl Q (pc + 2) lv (.int v :: st) w) : Gd t V nL ce sl Q pc lv st w :=
  fun H locs ls h1 h2 h3 => lv_bipush X.1 X.2.1 d hv (k H locs ls h1 h2 h3)
theorem g_sipush (X : Cx t V cc nL own) {n : Int} {v : Int32} (d : decode cc pc = .ok (.sipush n, 3)) (hv : (Int16.ofInt n).toInt32 = v) (k : Gd t V nL ce sl Q (pc + 3) lv (.int v :: st) w) : Gd t V nL ce sl Q pc lv st w :=
  fun H locs ls h1 h2 h3 => lv_sipush X.1 X.2.1 d hv (k H locs ls h1 h2 h3)
theorem g_lconst (X : Cx t V cc nL own) {n : Fin 2} {v : Int64} (d : decode cc pc = .ok (.lconst n, 1)) (hv : Int64.ofNat (n : Nat) = v) (k : Gd t V nL ce sl Q (pc + 1) lv (.long v :: st) w) : Gd t V nL ce sl Q pc lv st w :=
  fun H locs ls h1 h2 h3 => lv_lconst X.1 X.2.1 d hv (k H locs ls h1 h2 h3)
theorem g_ldc (X : Cx t V cc nL own) {index : Nat} {v : Int32} (q : Cond.constant own index v ∈ gw) (d : decode cc pc = .ok (.ldc index, 2)) (k : Gd t V nL ce sl Q (pc + 2) lv (.int v :: st) w) : Gd t V nL ce sl Q pc lv st w :=
  fun H locs ls h1 h2 h3 => lv_ldc X.1 X.2.1 X.2.2.2.1 (X.2.2.2.2.1 _ q) d (k H locs ls h1 h2 h3)
theorem g_ldcw (X : Cx t V cc nL own) {index : Nat} {v : Int32} (q : Cond.constant own index v ∈ gw) (d : decode cc pc = .ok (.ldc_w index, 3)) (k : Gd t V nL ce sl Q (pc + 3) lv (.int v :: st) w) : Gd t V nL ce sl Q pc lv st w :=
  fun H locs ls h1 h2 h3 => lv_ldcw X.1 X.2.1 X.2.2.2.1 (X.2.2.2.2.1 _ q) d (k H locs ls h1 h2 h3)
theorem g_ldc2 (X : Cx t V cc nL own) {index : Nat} {v : Int64} (q : Cond.constantLong own index v ∈ gw) (d : decode cc pc = .ok (.ldc2_w index, 3)) (k : Gd t V nL ce sl Q (pc + 3) lv (.long v :: st) w) : Gd t V nL ce sl Q pc lv st w :=
  fun H locs ls h1 h2 h3 => lv_ldc2 X.1 X.2.1 X.2.2.2.1 (X.2.2.2.2.1 _ q) d (k H locs ls h1 h2 h3)
theorem g_iload_n (X : Cx t V cc nL own) {k : Fin 4} {x : Int32} (n : Nat) (hi : lv[n]? = some ((k : Nat), .int x)) (d : decode cc pc = .ok (.iload_n k, 1)) (kk : Gd t V nL ce sl Q (pc + 1) lv (.int x :: st) w) : Gd t V nL ce sl Q pc lv st w :=
  fun H locs ls h1 h2 h3 => lv_iload_n X.1 X.2.1 d rfl (lv_at h3 n hi) (kk H locs ls h1 h2 h3)
theorem g_iload (X : Cx t V cc nL own) {i : Nat} {x : Int32} (n : Nat) (hi : lv[n]? = some (i, .int x)) (d : decode cc pc = .ok (.iload i, 2)) (kk : Gd t V nL ce sl Q (pc + 2) lv (.int x :: st) w) : Gd t V nL ce sl Q pc lv st w :=
  fun H locs ls h1 h2 h3 => lv_iload X.1 X.2.1 d (lv_at h3 n hi) (kk H locs ls h1 h2 h3)
theorem g_lload (X : Cx t V cc nL own) {i : Nat} {x : Int64} (n : Nat) (hi : lv[n]? = some (i, .long x)) (d : decode cc pc = .ok (.lload i, 2)) (kk : Gd t V nL ce sl Q (pc + 2) lv (.long x :: st) w) : Gd t V nL ce sl Q pc lv st w :=
  fun H locs ls h1 h2 h3 => lv_lload X.1 X.2.1 d (lv_at h3 n hi) (kk H locs ls h1 h2 h3)
theorem g_aload_n (X : Cx t V cc nL own) {k : Fin 4} {x : Nat} (n : Nat) (hi : lv[n]? = some ((k : Nat), rf V x)) (d : decode cc pc = .ok (.aload_n k, 1)) (kk : Gd t V nL ce sl Q (pc + 1) lv (rf V x :: st) w) : Gd t V nL ce sl Q pc lv st w :=
  fun H locs ls h1 h2 h3 => lv_aload_n X.1 X.2.1 d rfl (lv_at h3 n hi) (kk H locs ls h1 h2 h3)
theorem g_aload (X : Cx t V cc nL own) {i : Nat} {x : Nat} (n : Nat) (hi : lv[n]? = some (i, rf V x)) (d : decode cc pc = .ok (.aload i, 2)) (kk : Gd t V nL ce sl Q (pc + 2) lv (rf V x :: st) w) : Gd t V nL ce sl Q pc lv st w :=
  fun H locs ls h1 h2 h3 => lv_aload X.1 X.2.1 d (lv_at h3 n hi) (kk H locs ls h1 h2 h3)
theorem g_aload_nq (X : Cx t V cc nL own) {k : Fin 4} {x : Option Nat} (n : Nat) (hi : lv[n]? = some ((k : Nat), rq V x)) (d : decode cc pc = .ok (.aload_n k, 1)) (kk : Gd t V nL ce sl Q (pc + 1) lv (rq V x :: st) w) : Gd t V nL ce sl Q pc lv st w := by
  cases x with
  | none => exact fun H locs ls h1 h2 h3 => lv_aload_nN X.1 X.2.1 d rfl (lv_at h3 n hi) (kk H locs ls h1 h2 h3)
  | some a => exact fun H locs ls h1 h2 h3 => lv_aload_n X.1 X.2.1 d rfl (lv_at h3 n hi) (kk H locs ls h1 h2 h3)
theorem g_istore_n (X : Cx t V cc nL own) {k : Fin 4} {x : Int32} {lv' : List (Nat × Value)} (d : decode cc pc = .ok (.istore_n k, 1)) (hn : (k : Nat) < nL) (hl : ((k : Nat), Value.int x) :: lv.filter (fun q => !(q.1 == (k : Nat)) && !(q.1 + 1 == (k : Nat) && q.2.category == 2)) = lv') (kk : Gd t V nL ce sl Q (pc + 1) lv' st w) : Gd t V nL ce sl Q pc lv (.int x :: st) w :=
  fun H locs ls h1 h2 h3 => lv_istore_n X.1 X.2.1 d rfl h3 hn hl (fun ls' h3' => kk H locs ls' h1 h2 h3')
theorem g_istore (X : Cx t V cc nL own) {i : Nat} {x : Int32} {lv' : List (Nat × Value)} (d : decode cc pc = .ok (.istore i, 2)) (hn : i < nL) (hl : (i, Value.int x) :: lv.filter (fun q => !(q.1 == i) && !(q.1 + 1 == i && q.2.category == 2)) = lv') (kk : Gd t V nL ce sl Q (pc + 2) lv' st w) : Gd t V nL ce sl Q pc lv (.int x :: st) w :=
  fun H locs ls h1 h2 h3 => lv_istore X.1 X.2.1 d h3 hn hl (fun ls' h3' => kk H locs ls' h1 h2 h3')
theorem g_lstore (X : Cx t V cc nL own) {i : Nat} {x : Int64} {lv' : List (Nat × Value)} (d : decode cc pc = .ok (.lstore i, 2)) (hn : i + 1 < nL) (hl : (i, Value.long x) :: lv.filter (fun q => !(q.1 == i) && (!(q.1 == i + 1) && !(q.1 + 1 == i && q.2.category == 2))) = lv') (kk : Gd t V nL ce sl Q (pc + 2) lv' st w) : Gd t V nL ce sl Q pc lv (.long x :: st) w :=
  fun H locs ls h1 h2 h3 => lv_lstore X.1 X.2.1 d h3 hn hl (fun ls' h3' => kk H locs ls' h1 h2 h3')
theorem g_astore_n (X : Cx t V cc nL own) {k : Fin 4} {x : Nat} {lv' : List (Nat × Value)} (d : decode cc pc = .ok (.astore_n k, 1)) (hn : (k : Nat) < nL) (hl : ((k : Nat), rf V x) :: lv.filter (fun q => !(q.1 == (k : Nat)) && !(q.1 + 1 == (k : Nat) && q.2.category == 2)) = lv') (kk : Gd t V nL ce sl Q (pc + 1) lv' st w) : Gd t V nL ce sl Q pc lv (rf V x :: st) w :=
  fun H locs ls h1 h2 h3 => lv_astore_n X.1 X.2.1 d rfl h3 hn hl (fun ls' h3' => kk H locs ls' h1 h2 h3')
theorem g_astore (X : Cx t V cc nL own) {i : Nat} {x : Nat} {lv' : List (Nat × Value)} (d : decode cc pc = .ok (.astore i, 2)) (hn : i < nL) (hl : (i, rf V x) :: lv.filter (fun q => !(q.1 == i) && !(q.1 + 1 == i && q.2.category == 2)) = lv') (kk : Gd t V nL ce sl Q (pc + 2) lv' st w) : Gd t V nL ce sl Q pc lv (rf V x :: st) w :=
  fun H locs ls h1 h2 h3 => lv_astore X.1 X.2.1 d h3 hn hl (fun ls' h3' => kk H locs ls' h1 h2 h3')
theorem g_astore_nq (X : Cx t V cc nL own) {k : Fin 4} {x : Option Nat} {lv' : List (Nat × Value)} (d : decode cc pc = .ok (.astore_n k, 1)) (hn : (k : Nat) < nL) (hl : ((k : Nat), rq V x) :: lv.filter (fun q => !(q.1 == (k : Nat)) && !(q.1 + 1 == (k : Nat) && q.2.category == 2)) = lv') (kk : Gd t V nL ce sl Q (pc + 1) lv' st w) : Gd t V nL ce sl Q pc lv (rq V x :: st) w := by
  cases x with
  | none => exact fun H locs ls h1 h2 h3 => lv_astore_nN X.1 X.2.1 d rfl h3 hn hl (fun ls' h3' => kk H locs ls' h1 h2 h3')
  | some a => exact fun H locs ls h1 h2 h3 => lv_astore_n X.1 X.2.1 d rfl h3 hn hl (fun ls' h3' => kk H locs ls' h1 h2 h3')
theorem g_astoreq (X : Cx t V cc nL own) {i : Nat} {x : Option Nat} {lv' : List (Nat × Value)} (d : decode cc pc = .ok (.astore i, 2)) (hn : i < nL) (hl : (i, rq V x) :: lv.filter (fun q => !(q.1 == i) && !(q.1 + 1 == i && q.2.category == 2)) = lv') (kk : Gd t V nL ce sl Q (pc + 2) lv' st w) : Gd t V nL ce sl Q pc lv (rq V x :: st) w := by
  cases x with
  | none => exact fun H locs ls h1 h2 h3 => lv_astoreN X.1 X.2.1 d h3 hn hl (fun ls' h3' => kk H locs ls' h1 h2 h3')
  | some a => exact fun H locs ls h1 h2 h3 => lv_astore X.1 X.2.1 d h3 hn hl (fun ls' h3' => kk H locs ls' h1 h2 h3')
theorem g_aloadq (X : Cx t V cc nL own) {i : Nat} {x : Option Nat} (n : Nat) (hi : lv[n]? = some (i, rq V x)) (d : decode cc pc = .ok (.aload i, 2)) (kk : Gd t V nL ce sl Q (pc + 2) lv (rq V x :: st) w) : Gd t V nL ce sl Q pc lv st w := by
  cases x with
  | none => exact fun H locs ls h1 h2 h3 => lv_aloadN X.1 X.2.1 d (lv_at h3 n hi) (kk H locs ls h1 h2 h3)
  | some a => exact fun H locs ls h1 h2 h3 => lv_aload X.1 X.2.1 d (lv_at h3 n hi) (kk H locs ls h1 h2 h3)
theorem g_iinc (X : Cx t V cc nL own) {i : Nat} {n : Int} {x v : Int32} {lv' : List (Nat × Value)} (k : Nat) (hk : lv[k]? = some (i, .int x)) (d : decode cc pc = .ok (.iinc i n, 3)) (hv : x + Int32.ofInt n = v) (hn : i < nL) (hl : (i, Value.int v) :: lv.filter (fun q => !(q.1 == i) && !(q.1 + 1 == i && q.2.category == 2)) = lv') (kk : Gd t V nL ce sl Q (pc + 3) lv' st w) : Gd t V nL ce sl Q pc lv st w :=
  fun H locs ls h1 h2 h3 => lv_iinc X.1 X.2.1 d h3 hk hv hn hl (fun ls' h3' => kk H locs ls' h1 h2 h3')
theorem g_null (X : Cx t V cc nL own) (d : decode cc pc = .ok (.aconst_null, 1)) (k : Gd t V nL ce sl Q (pc + 1) lv (rq V none :: st) w) : Gd t V nL ce sl Q pc lv st w :=
  fun H locs ls h1 h2 h3 => lv_null X.1 X.2.1 d (k H locs ls h1 h2 h3)
theorem g_iadd (X : Cx t V cc nL own) {x y : Int32} (d : decode cc pc = .ok (.iadd, 1)) (k : Gd t V nL ce sl Q (pc + 1) lv (.int (x + y) :: st) w) : Gd t V nL ce sl Q pc lv (.int y :: .int x :: st) w :=
  fun H locs ls h1 h2 h3 => lv_iadd X.1 X.2.1 d (k H locs ls h1 h2 h3)
theorem g_isub (X : Cx t V cc nL own) {x y : Int32} (d : decode cc pc = .ok (.isub, 1)) (k : Gd t V nL ce sl Q (pc + 1) lv (.int (x - y) :: st) w) : Gd t V nL ce sl Q pc lv (.int y :: .int x :: st) w :=
  fun H locs ls h1 h2 h3 => lv_isub X.1 X.2.1 d (k H locs ls h1 h2 h3)
theorem g_imul (X : Cx t V cc nL own) {x y : Int32} (d : decode cc pc = .ok (.imul, 1)) (k : Gd t V nL ce sl Q (pc + 1) lv (.int (x * y) :: st) w) : Gd t V nL ce sl Q pc lv (.int y :: .int x :: st) w :=
  fun H locs ls h1 h2 h3 => lv_imul X.1 X.2.1 d (k H locs ls h1 h2 h3)
theorem g_iand (X : Cx t V cc nL own) {x y : Int32} (d : decode cc pc = .ok (.iand, 1)) (k : Gd t V nL ce sl Q (pc + 1) lv (.int (x &&& y) :: st) w) : Gd t V nL ce sl Q pc lv (.int y :: .int x :: st) w :=
  fun H locs ls h1 h2 h3 => lv_iand X.1 X.2.1 d (k H locs ls h1 h2 h3)
theorem g_ior (X : Cx t V cc nL own) {x y : Int32} (d : decode cc pc = .ok (.ior, 1)) (k : Gd t V nL ce sl Q (pc + 1) lv (.int (x ||| y) :: st) w) : Gd t V nL ce sl Q pc lv (.int y :: .int x :: st) w :=
  fun H locs ls h1 h2 h3 => lv_ior X.1 X.2.1 d (k H locs ls h1 h2 h3)
theorem g_ixor (X : Cx t V cc nL own) {x y : Int32} (d : decode cc pc = .ok (.ixor, 1)) (k : Gd t V nL ce sl Q (pc + 1) lv (.int (x ^^^ y) :: st) w) : Gd t V nL ce sl Q pc lv (.int y :: .int x :: st) w :=
  fun H locs ls h1 h2 h3 => lv_ixor X.1 X.2.1 d (k H locs ls h1 h2 h3)
theorem g_ishl (X : Cx t V cc nL own) {x y : Int32} (d : decode cc pc = .ok (.ishl, 1)) (k : Gd t V nL ce sl Q (pc + 1) lv (.int (x <<< (y &&& 31)) :: st) w) : Gd t V nL ce sl Q pc lv (.int y :: .int x :: st) w :=
  fun H locs ls h1 h2 h3 => lv_ishl X.1 X.2.1 d (k H locs ls h1 h2 h3)
theorem g_ishr (X : Cx t V cc nL own) {x y : Int32} (d : decode cc pc = .ok (.ishr, 1)) (k : Gd t V nL ce sl Q (pc + 1) lv (.int (x >>> (y &&& 31)) :: st) w) : Gd t V nL ce sl Q pc lv (.int y :: .int x :: st) w :=
  fun H locs ls h1 h2 h3 => lv_ishr X.1 X.2.1 d (k H locs ls h1 h2 h3)
/-- x >>> y as the machine does it -/
def ushr (x y : Int32) : Int32 := (x.toUInt32 >>> (y.toUInt32 &&& Int32.toUInt32 31)).toInt32
theorem g_iushr (X : Cx t V cc nL own) {x y : Int32} (d : decode cc pc = .ok (.iushr, 1)) (k : Gd t V nL ce sl Q (pc + 1) lv (.int (ushr x y) :: st) w) : Gd t V nL ce sl Q pc lv (.int y :: .int x :: st) w :=
  fun H locs ls h1 h2 h3 => lv_iushr X.1 X.2.1 d rfl (k H locs ls h1 h2 h3)
theorem g_ineg (X : Cx t V cc nL own) {x : Int32} (d : decode cc pc = .ok (.ineg, 1)) (k : Gd t V nL ce sl Q (pc + 1) lv (.int (-x) :: st) w) : Gd t V nL ce sl Q pc lv (.int x :: st) w :=
  fun H locs ls h1 h2 h3 => lv_ineg X.1 X.2.1 d (k H locs ls h1 h2 h3)
theorem g_idiv (X : Cx t V cc nL own) {x y : Int32} (hne : ¬ y = 0) (d : decode cc pc = .ok (.idiv, 1)) (k : Gd t V nL ce sl Q (pc + 1) lv (.int (x / y) :: st) w) : Gd t V nL ce sl Q pc lv (.int y :: .int x :: st) w :=
  fun H locs ls h1 h2 h3 => lv_idiv X.1 X.2.1 d hne (k H locs ls h1 h2 h3)
/-- x % y -/
def irem (x y : Int32) : Int32 := x - x / y * y
theorem g_irem (X : Cx t V cc nL own) {x y : Int32} (hne : ¬ y = 0) (d : decode cc pc = .ok (.irem, 1)) (k : Gd t V nL ce sl Q (pc + 1) lv (.int (irem x y) :: st) w) : Gd t V nL ce sl Q pc lv (.int y :: .int x :: st) w :=
  fun H locs ls h1 h2 h3 => lv_irem X.1 X.2.1 d hne (k H locs ls h1 h2 h3)
def lrem (x y : Int64) : Int64 := x - x / y * y
theorem g_lrem (X : Cx t V cc nL own) {x y : Int64} (hne : ¬ y = 0) (d : decode cc pc = .ok (.lrem, 1)) (k : Gd t V nL ce sl Q (pc + 1) lv (.long (lrem x y) :: st) w) : Gd t V nL ce sl Q pc lv (.long y :: .long x :: st) w :=
  fun H locs ls h1 h2 h3 => lv_lrem X.1 X.2.1 d hne (k H locs ls h1 h2 h3)
theorem g_ladd (X : Cx t V cc nL own) {x y : Int64} (d : decode cc pc = .ok (.ladd, 1)) (k : Gd t V nL ce sl Q (pc + 1) lv (.long (x + y) :: st) w) : Gd t V nL ce sl Q pc lv (.long y :: .long x :: st) w :=
  fun H locs ls h1 h2 h3 => lv_ladd X.1 X.2.1 d (k H locs ls h1 h2 h3)
theorem g_i2l (X : Cx t V cc nL own) {x : Int32} (d : decode cc pc = .ok (.i2l, 1)) (k : Gd t V nL ce sl Q (pc + 1) lv (.long x.toInt64 :: st) w) : Gd t V nL ce sl Q pc lv (.int x :: st) w :=
  fun H locs ls h1 h2 h3 => lv_i2l X.1 X.2.1 d rfl (k H locs ls h1 h2 h3)
theorem g_l2i (X : Cx t V cc nL own) {x : Int64} (d : decode cc pc = .ok (.l2i, 1)) (k : Gd t V nL ce sl Q (pc + 1) lv (.int x.toInt32 :: st) w) : Gd t V nL ce sl Q pc lv (.long x :: st) w :=
  fun H locs ls h1 h2 h3 => lv_l2i X.1 X.2.1 d rfl (k H locs ls h1 h2 h3)
theorem g_i2s (X : Cx t V cc nL own) {x : Int32} (d : decode cc pc = .ok (.i2s, 1)) (k : Gd t V nL ce sl Q (pc + 1) lv (.int x.toInt16.toInt32 :: st) w) : Gd t V nL ce sl Q pc lv (.int x :: st) w :=
  fun H locs ls h1 h2 h3 => lv_i2s X.1 X.2.1 d rfl (k H locs ls h1 h2 h3)
theorem g_i2c (X : Cx t V cc nL own) {x : Int32} (d : decode cc pc = .ok (.i2c, 1)) (k : Gd t V nL ce sl Q (pc + 1) lv (.int (x.toUInt32 % 65536).toInt32 :: st) w) : Gd t V nL ce sl Q pc lv (.int x :: st) w :=
  fun H locs ls h1 h2 h3 => lv_i2c X.1 X.2.1 d rfl (k H locs ls h1 h2 h3)
theorem g_dup (X : Cx t V cc nL own) {a : Value} (ha : a.category = 1) (d : decode cc pc = .ok (.dup, 1)) (k : Gd t V nL ce sl Q (pc + 1) lv (a :: a :: st) w) : Gd t V nL ce sl Q pc lv (a :: st) w :=
  fun H locs ls h1 h2 h3 => lv_dup X.1 X.2.1 d ha (k H locs ls h1 h2 h3)
theorem g_dup2 (X : Cx t V cc nL own) {a b : Value} (ha : a.category = 1) (hb : b.category = 1) (d : decode cc pc = .ok (.dup2, 1)) (k : Gd t V nL ce sl Q (pc + 1) lv (a :: b :: a :: b :: st) w) : Gd t V nL ce sl Q pc lv (a :: b :: st) w :=
  fun H locs ls h1 h2 h3 => lv_dup2_11 X.1 X.2.1 d ha hb (k H locs ls h1 h2 h3)
theorem g_dup_x1 (X : Cx t V cc nL own) {a b : Value} (ha : a.category = 1) (hb : b.category = 1) (d : decode cc pc = .ok (.dup_x1, 1)) (k : Gd t V nL ce sl Q (pc + 1) lv (a :: b :: a :: st) w) : Gd t V nL ce sl Q pc lv (a :: b :: st) w :=
  fun H locs ls h1 h2 h3 => lv_dup_x1 X.1 X.2.1 d ha hb (k H locs ls h1 h2 h3)
theorem g_pop (X : Cx t V cc nL own) {a : Value} (ha : a.category = 1) (d : decode cc pc = .ok (.pop, 1)) (k : Gd t V nL ce sl Q (pc + 1) lv st w) : Gd t V nL ce sl Q pc lv (a :: st) w :=
  fun H locs ls h1 h2 h3 => lv_pop X.1 X.2.1 d ha (k H locs ls h1 h2 h3)
theorem g_if_eq (X : Cx t V cc nL own) {x : Int32} {off : Int} {tgt : Nat} (d : decode cc pc = .ok (.ifCond .eq off, 3)) (ht : (pc : Int) + off = (tgt : Int)) (kt : x = 0 → Gd t V nL ce sl Q tgt lv st w) (kf : ¬ x = 0 → Gd t V nL ce sl Q (pc + 3) lv st w) : Gd t V nL ce sl Q pc lv (.int x :: st) w :=
  fun H locs ls h1 h2 h3 => lv_if_eq X.1 X.2.1 d ht (fun c => kt c H locs ls h1 h2 h3) (fun c => kf c H locs ls h1 h2 h3)
theorem g_if_ne (X : Cx t V cc nL own) {x : Int32} {off : Int} {tgt : Nat} (d : decode cc pc = .ok (.ifCond .ne off, 3)) (ht : (pc : Int) + off = (tgt : Int)) (kt : ¬ x = 0 → Gd t V nL ce sl Q tgt lv st w) (kf : x = 0 → Gd t V nL ce sl Q (pc + 3) lv st w) : Gd t V nL ce sl Q pc lv (.int x :: st) w :=
  fun H locs ls h1 h2 h3 => lv_if_ne X.1 X.2.1 d ht (fun c => kt c H locs ls h1 h2 h3) (fun c => kf c H locs ls h1 h2 h3)
theorem g_if_lt (X : Cx t V cc nL own) {x : Int32} {off : Int} {tgt : Nat} (d : decode cc pc = .ok (.ifCond .lt off, 3)) (ht : (pc : Int) + off = (tgt : Int)) (kt : x < 0 → Gd t V nL ce sl Q tgt lv st w) (kf : ¬ x < 0 → Gd t V nL ce sl Q (pc + 3) lv st w) : Gd t V nL ce sl Q pc lv (.int x :: st) w :=
  fun H locs ls h1 h2 h3 => lv_if_lt X.1 X.2.1 d ht (fun c => kt c H locs ls h1 h2 h3) (fun c => kf c H locs ls h1 h2 h3)
theorem g_if_ge (X : Cx t V cc nL own) {x : Int32} {off : Int} {tgt : Nat} (d : decode cc pc = .ok (.ifCond .ge off, 3)) (ht : (pc : Int) + off = (tgt : Int)) (kt : 0 ≤ x → Gd t V nL ce sl Q tgt lv st w) (kf : ¬ 0 ≤ x → Gd t V nL ce sl Q (pc + 3) lv st w) : Gd t V nL ce sl Q pc lv (.int x :: st) w :=
  fun H locs ls h1 h2 h3 => lv_if_ge X.1 X.2.1 d ht (fun c => kt c H locs ls h1 h2 h3) (fun c => kf c H locs ls h1 h2 h3)
theorem g_if_gt (X : Cx t V cc nL own) {x : Int32} {off : Int} {tgt : Nat} (d : decode cc pc = .ok (.ifCond .gt off, 3)) (ht : (pc : Int) + off = (tgt : Int)) (kt : 0 < x → Gd t V nL ce sl Q tgt lv st w) (kf : ¬ 0 < x → Gd t V nL ce sl Q (pc + 3) lv st w) : Gd t V nL ce sl Q pc lv (.int x :: st) w :=
  fun H locs ls h1 h2 h3 => lv_if_gt X.1 X.2.1 d ht (fun c => kt c H locs ls h1 h2 h3) (fun c => kf c H locs ls h1 h2 h3)
theorem g_if_le (X : Cx t V cc nL own) {x : Int32} {off : Int} {tgt : Nat} (d : decode cc pc = .ok (.ifCond .le off, 3)) (ht : (pc : Int) + off = (tgt : Int)) (kt : x ≤ 0 → Gd t V nL ce sl Q tgt lv st w) (kf : ¬ x ≤ 0 → Gd t V nL ce sl Q (pc + 3) lv st w) : Gd t V nL ce sl Q pc lv (.int x :: st) w :=
  fun H locs ls h1 h2 h3 => lv_if_le X.1 X.2.1 d ht (fun c => kt c H locs ls h1 h2 h3) (fun c => kf c H locs ls h1 h2 h3)
theorem g_icmp_eq (X : Cx t V cc nL own) {x y : Int32} {off : Int} {tgt : Nat} (d : decode cc pc = .ok (.if_icmp .eq off, 3)) (ht : (pc : Int) + off = (tgt : Int)) (kt : x = y → Gd t V nL ce sl Q tgt lv st w) (kf : ¬ x = y → Gd t V nL ce sl Q (pc + 3) lv st w) : Gd t V nL ce sl Q pc lv (.int y :: .int x :: st) w :=
  fun H locs ls h1 h2 h3 => lv_icmp_eq X.1 X.2.1 d ht (fun c => kt c H locs ls h1 h2 h3) (fun c => kf c H locs ls h1 h2 h3)
theorem g_icmp_ne (X : Cx t V cc nL own) {x y : Int32} {off : Int} {tgt : Nat} (d : decode cc pc = .ok (.if_icmp .ne off, 3)) (ht : (pc : Int) + off = (tgt : Int)) (kt : ¬ x = y → Gd t V nL ce sl Q tgt lv st w) (kf : x = y → Gd t V nL ce sl Q (pc + 3) lv st w) : Gd t V nL ce sl Q pc lv (.int y :: .int x :: st) w :=
  fun H locs ls h1 h2 h3 => lv_icmp_ne X.1 X.2.1 d ht (fun c => kt c H locs ls h1 h2 h3) (fun c => kf c H locs ls h1 h2 h3)
theorem g_icmp_lt (X : Cx t V cc nL own) {x y : Int32} {off : Int} {tgt : Nat} (d : decode cc pc = .ok (.if_icmp .lt off, 3)) (ht : (pc : Int) + off = (tgt : Int)) (kt : x < y → Gd t V nL ce sl Q tgt lv st w) (kf : ¬ x < y → Gd t V nL ce sl Q (pc + 3) lv st w) : Gd t V nL ce sl Q pc lv (.int y :: .int x :: st) w :=
  fun H locs ls h1 h2 h3 => lv_icmp_lt X.1 X.2.1 d ht (fun c => kt c H locs ls h1 h2 h3) (fun c => kf c H locs ls h1 h2 h3)
theorem g_icmp_ge (X : Cx t V cc nL own) {x y : Int32} {off : Int} {tgt : Nat} (d : decode cc pc = .ok (.if_icmp .ge off, 3)) (ht : (pc : Int) + off = (tgt : Int)) (kt : y ≤ x → Gd t V nL ce sl Q tgt lv st w) (kf : ¬ y ≤ x → Gd t V nL ce sl Q (pc + 3) lv st w) : Gd t V nL ce sl Q pc lv (.int y :: .int x :: st) w :=
  fun H locs ls h1 h2 h3 => lv_icmp_ge X.1 X.2.1 d ht (fun c => kt c H locs ls h1 h2 h3) (fun c => kf c H locs ls h1 h2 h3)
theorem g_icmp_gt (X : Cx t V cc nL own) {x y : Int32} {off : Int} {tgt : Nat} (d : decode cc pc = .ok (.if_icmp .gt off, 3)) (ht : (pc : Int) + off = (tgt : Int)) (kt : y < x → Gd t V nL ce sl Q tgt lv st w) (kf : ¬ y < x → Gd t V nL ce sl Q (pc + 3) lv st w) : Gd t V nL ce sl Q pc lv (.int y :: .int x :: st) w :=
  fun H locs ls h1 h2 h3 => lv_icmp_gt X.1 X.2.1 d ht (fun c => kt c H locs ls h1 h2 h3) (fun c => kf c H locs ls h1 h2 h3)
theorem g_icmp_le (X : Cx t V cc nL own) {x y : Int32} {off : Int} {tgt : Nat} (d : decode cc pc = .ok (.if_icmp .le off, 3)) (ht : (pc : Int) + off = (tgt : Int)) (kt : x ≤ y → Gd t V nL ce sl Q tgt lv st w) (kf : ¬ x ≤ y → Gd t V nL ce sl Q (pc + 3) lv st w) : Gd t V nL ce sl Q pc lv (.int y :: .int x :: st) w :=
  fun H locs ls h1 h2 h3 => lv_icmp_le X.1 X.2.1 d ht (fun c => kt c H locs ls h1 h2 h3) (fun c => kf c H locs ls h1 h2 h3)
theorem g_goto (X : Cx t V cc nL own) {off : Int} {tgt : Nat} (d : decode cc pc = .ok (.goto off, 3)) (ht : (pc : Int) + off = (tgt : Int)) (k : Gd t V nL ce sl Q tgt lv st w) : Gd t V nL ce sl Q pc lv st w :=
  fun H locs ls h1 h2 h3 => lv_goto X.1 X.2.1 d ht (k H locs ls h1 h2 h3)
theorem g_ifnonnullS (X : Cx t V cc nL own) {a : Nat} {off : Int} {tgt : Nat} (d : decode cc pc = .ok (.ifnonnull off, 3)) (ht : (pc : Int) + off = (tgt : Int)) (k : Gd t V nL ce sl Q tgt lv st w) : Gd t V nL ce sl Q pc lv (rf V a :: st) w :=
  fun H locs ls h1 h2 h3 => lv_ifnonnull X.1 X.2.1 d ht (k H locs ls h1 h2 h3)
theorem g_ifnonnullN (X : Cx t V cc nL own) {off : Int} (d : decode cc pc = .ok (.ifnonnull off, 3)) (k : Gd t V nL ce sl Q (pc + 3) lv st w) : Gd t V nL ce sl Q pc lv (rq V none :: st) w :=
  fun H locs ls h1 h2 h3 => lv_ifnonnullN X.1 X.2.1 d (k H locs ls h1 h2 h3)
theorem g_sub (ks : List Nat) {lv' : List (Nat × Value)} (hl : lv_pick lv ks = lv') (k : Gd t V nL ce sl Q pc lv' st w) : Gd t V nL ce sl Q pc lv st w :=
  fun H locs ls h1 h2 h3 => k H locs ls h1 h2 (lv_sub h3 ks hl)
theorem g_widen {ce' sl' : Nat} (h1 : ce ≤ ce') (h2 : sl ≤ sl') (k : Gd t V nL ce' sl' Q pc lv st w) : Gd t V nL ce sl Q pc lv st w :=
  fun H locs ls q1 q2 q3 => W.widen h1 h2 (k H locs ls q1 q2 q3)
theorem g_tswI (X : Cx t V cc nL own) {dflt lo hi : Int} {offs : Array Int} {len : Nat} {x : Int32} (v : Int32) {off : Int} {tgt : Nat} (d : decode cc pc = .ok (.tableswitch dflt lo hi offs, len)) (hx : x = v) (h1 : ¬ v.toInt < lo) (h2 : ¬ hi < v.toInt) (ho : offs[(v.toInt - lo).toNat]? = some off) (ht : (pc : Int) + off = (tgt : Int)) (k : Gd t V nL ce sl Q tgt lv st w) : Gd t V nL ce sl Q pc lv (.int x :: st) w := by
  subst hx
  exact fun H locs ls q1 q2 q3 => lv_tableIn X.1 X.2.1 d h1 h2 ho ht (k H locs ls q1 q2 q3)
theorem g_tswO (X : Cx t V cc nL own) {dflt lo hi : Int} {offs : Array Int} {len : Nat} {x : Int32} {tgt : Nat} (d : decode cc pc = .ok (.tableswitch dflt lo hi offs, len)) (h : x.toInt < lo ∨ hi < x.toInt) (ht : (pc : Int) + dflt = (tgt : Int)) (k : Gd t V nL ce sl Q tgt lv st w) : Gd t V nL ce sl Q pc lv (.int x :: st) w :=
  fun H locs ls q1 q2 q3 => lv_tableOut X.1 X.2.1 d h ht (k H locs ls q1 q2 q3)
theorem g_lsw (X : Cx t V cc nL own) {dflt : Int} {ps : Array (Int × Int)} {len : Nat} {x : Int32} {off : Int} {tgt : Nat} (d : decode cc pc = .ok (.lookupswitch dflt ps, len)) (hp : (ps.toList.zip (ps.toList.drop 1)).all (fun (a, next) => a.1 < next.1) = true) (ho : Op.lookupswitch.offset ps.toList dflt x.toInt = off) (ht : (pc : Int) + off = (tgt : Int)) (k : Gd t V nL ce sl Q tgt lv st w) : Gd t V nL ce sl Q pc lv (.int x :: st) w :=
  fun H locs ls q1 q2 q3 => lv_lookup X.1 X.2.1 d hp ho ht (k H locs ls q1 q2 q3)
/-! fields -/
/-- a class, its number, its table; a field's number -/
def Fc (ci : Nat) (C : String) (T : u_T) (N : Nat) (ty : Nat → FieldType) : Prop := vwCl[ci]? = some (C, T, N) ∧ ci < 10 ∧ fN ci = N ∧ (∀ w ∈ u_ws C T N, w ∈ gw) ∧ (∀ k, k < N → parseFieldDescriptor (T k).2.2.1 = some (ty k)) ∧ (∀ a, a < N → ∀ b, b < N → a ≠ b → (T a).2.1 ≠ (T b).2.1) ∧ ∀ k, k < N → (T k).1 = C
theorem g_getI (X : Cx t V cc nL own) {ci a index : Nat} {C : String} {T : u_T} {N : Nat} {ty : Nat → FieldType} (F : Fc ci C T N ty) (hk : wK w a = ci) (k : Nat) (hN : k < N) (hf : frf ci k = false) (q : Cond.fieldLink own index (T k).1 (T k).2.1 (T k).2.2.1 ∈ gw) (d : decode cc pc = .ok (.getfield index, 3)) (kk : Gd t V nL ce sl Q (pc + 3) lv (.int (wI w a k) :: st) w) : Gd t V nL ce sl Q pc lv (rf V a :: st) w :=
  fun H locs ls h1 h2 h3 => va_get (D := V.2.1) (ci := ci) (C := C) (T := T) (N := N) X.1 X.2.1 X.2.2.2.2.1 F.2.2.2.1 X.2.2.2.1 X.2.2.2.2.2.2.1 (h1.obj hk F.2.1) 0 rfl F.1 k hN (X.2.2.2.2.1 _ q) (fun _ h9 => h9) (by rw [fvs_at (by rw [F.2.2.1]; exact hN), fv, hf]; rfl) d (kk H locs ls h1 h2 h3)
theorem g_getR (X : Cx t V cc nL own) {ci a index b : Nat} {C : String} {T : u_T} {N : Nat} {ty : Nat → FieldType} (F : Fc ci C T N ty) (hk : wK w a = ci) (k : Nat) (hr : wR w a k = some b) (hN : k < N) (hf : frf ci k = true) (q : Cond.fieldLink own index (T k).1 (T k).2.1 (T k).2.2.1 ∈ gw) (d : decode cc pc = .ok (.getfield index, 3)) (kk : Gd t V nL ce sl Q (pc + 3) lv (rf V b :: st) w) : Gd t V nL ce sl Q pc lv (rf V a :: st) w :=
  fun H locs ls h1 h2 h3 => va_get (D := V.2.1) (ci := ci) (C := C) (T := T) (N := N) X.1 X.2.1 X.2.2.2.2.1 F.2.2.2.1 X.2.2.2.1 X.2.2.2.2.2.2.1 (h1.obj hk F.2.1) 0 rfl F.1 k hN (X.2.2.2.2.1 _ q) (fun _ h9 => h9) (by rw [fvs_at (by rw [F.2.2.1]; exact hN), fv, hf, hr]; rfl) d (kk H locs ls h1 h2 h3)
theorem Rp.lift {V : Vt} {w w' : Wd} {H H1 : Heap} {a : Nat} (h : Rp V w H) (hl : a < wN w) (hn : wN w' = wN w) (hk : ∀ b, wK w' b = wK w b) (ho : ∀ b, b ≠ a → enc V w' b = enc V w b) (z : H1.size = H.size) (oq : ∀ q : Nat, q ≠ V.1 + a → H1[q]? = H[q]?) (he : va_at V.2.1 vwCl (V.1 + a, enc V w' a) H1) : Rp V w' H1 := h.set hl hn hk ho z oq he
theorem g_put0 (X : Cx t V cc nL own) {ci a index : Nat} {C : String} {T : u_T} {N : Nat} {ty : Nat → FieldType} (F : Fc ci C T N ty) (hk : wK w a = ci) (k : Nat) (hN : k < N) (q : Cond.fieldLink own index (T k).1 (T k).2.1 (T k).2.2.1 ∈ gw) (hfin : (T k).2.2.2 = false) {v : Value} (hn : narrow (ty k) v = v) (hfit : fits (ty k) v = true) {w' : Wd} (hw : (fvs V w a ci).set k v = fvs V w' a ci) (e1 : wN w' = wN w) (e2 : ∀ b, wK w' b = wK w b) (e3 : ∀ b, b ≠ a → enc V w' b = enc V w b) (d : decode cc pc = .ok (.putfield index, 3)) (kk : Gd t V nL ce sl Q (pc + 3) lv st w') : Gd t V nL ce sl Q pc lv (v :: rf V a :: st) w := by
  intro H locs ls h1 h2 h3
  have hl : a < wN w := h1.lt hk (by have := F.2.1; omega)
  have hP := h1.obj hk F.2.1
  have hts := X.2.2.2.2.1
  have hK := X.2.2.2.2.2.2.1
  have hap := va_apart (own := own) (D := V.2.1) hts F.2.2.2.1 ty F.2.2.2.2.1 F.2.2.2.2.2.1 hK F.1
  obtain ⟨r, g1, cell, q1, q2, q3, q4⟩ := hP 0 _ rfl
  have hr : r = (C, T, N) := Option.some.inj (g1.symm.trans F.1)
  subst hr
  obtain ⟨hS, hfc, kC, hkC, hkind⟩ := hK.1 ci _ F.1
  obtain ⟨cf, kf, fi, f, hi, hsl⟩ := hS k hN
  have hlay := hts _ (F.2.2.2.1 _ (u_in_lay hN))
  unfold u_lay at hlay
  rw [if_neg (by rw [hfin]; decide)] at hlay
  have hst := (u_facts hfc hkC (u_lays hts F.2.2.2.1 hN) hi).1
  have h6 := u_store hfc hkC hkind hlay hi (F.2.2.2.2.1 k hN) hn hfit
  refine W.putK X.1 X.2.1 (f := f) ⟨X.2.2.2.1, hts _ q, ⟨_, _, _, hi⟩, hst⟩ (by rw [q2]; exact h6) q1 q3 (by rw [hsl]; exact k2_hasslot (q4 k hN)) rfl rfl d fun H' z1 z2 z3 => ?_
  rw [hsl] at z1 ⊢
  refine kk H' _ ls (h1.set hl e1 e2 e3 z2 z3 ?_) (h2.put z2 z3 (Nat.le_add_right _ _)) h3
  rw [enc_obj (k := ci) (by rw [e2]; exact hk) F.2.1, ← hw]
  exact ⟨_, F.1, t_OB.to (V := updV (vp_V (fvs V w a ci)) k v) ⟨_, z1, q2, q3, t_set q4 hap hN v⟩ (fun j _ => vp_updV_set (by rw [fvs_len, F.2.2.1]; exact hN) v j)⟩
theorem g_putI (X : Cx t V cc nL own) {ci a index : Nat} {C : String} {T : u_T} {N : Nat} {ty : Nat → FieldType} (F : Fc ci C T N ty) (hk : wK w a = ci) (k : Nat) (hN : k < N) (hf : frf ci k = false) (q : Cond.fieldLink own index (T k).1 (T k).2.1 (T k).2.2.1 ∈ gw) (hfin : (T k).2.2.2 = false) {x : Int32} (hn : narrow (ty k) (.int x) = .int x) (hfit : fits (ty k) (.int x) = true) (d : decode cc pc = .ok (.putfield index, 3)) (kk : Gd t V nL ce sl Q (pc + 3) lv st (sI w a k x)) : Gd t V nL ce sl Q pc lv (.int x :: rf V a :: st) w :=
  g_put0 X F hk k hN q hfin hn hfit (fvs_sI hf x) rfl (fun _ => rfl) (fun _ h => enc_sF h) d kk
theorem g_putF0 (X : Cx t V cc nL own) {ci a index : Nat} {C : String} {T : u_T} {N : Nat} {ty : Nat → FieldType} (F : Fc ci C T N ty) (hk : wK w a = ci) (k : Nat) (hN : k < N) (q : Cond.fieldLink own index (T k).1 (T k).2.1 (T k).2.2.1 ∈ gw) (hfin : (T k).2.2.2 = true) (hin : (tMe t).name = "<init>") (hdecl : C = own) {v : Value} (hn : narrow (ty k) v = v) (hfit : fits (ty k) v = true) {w' : Wd} (hw : (fvs V w a ci).set k v = fvs V w' a ci) (e1 : wN w' = wN w) (e2 : ∀ b, wK w' b = wK w b) (e3 : ∀ b, b ≠ a → enc V w' b = enc V w b) (d : decode cc pc = .ok (.putfield index, 3)) (kk : Gd t V nL ce sl Q (pc + 3) lv st w') : Gd t V nL ce sl Q pc lv (v :: rf V a :: st) w := by
  intro H locs ls h1 h2 h3
  have hl : a < wN w := h1.lt hk (by have := F.2.1; omega)
  have hP := h1.obj hk F.2.1
  have hts := X.2.2.2.2.1
  have hK := X.2.2.2.2.2.2.1
  have hap := va_apart (own := own) (D := V.2.1) hts F.2.2.2.1 ty F.2.2.2.2.1 F.2.2.2.2.2.1 hK F.1
  obtain ⟨r, g1, cell, q1, q2, q3, q4⟩ := hP 0 _ rfl
  have hr : r = (C, T, N) := Option.some.inj (g1.symm.trans F.1)
  subst hr
  obtain ⟨hS, hfc, kC, hkC, hkind⟩ := hK.1 ci _ F.1
  obtain ⟨cf, kf, fi, f, hi, hsl⟩ := hS k hN
  have hlay := hts _ (F.2.2.2.1 _ (u_in_lay hN))
  unfold u_lay at hlay
  rw [if_pos hfin] at hlay
  have hst := (u_facts hfc hkC (u_lays hts F.2.2.2.1 hN) hi).1
  have hcf : (tM t).cls = cf := by
    obtain ⟨_, _, c', _, _, _, -, -, hf', -, -, -, hown2, -⟩ := Cond.laysFinal_spec hlay
    have e1 : c' = cf := by have := hi.symm.trans hf'; simp at this; exact this.1.symm
    rw [F.2.2.2.2.2.2 k hN, hdecl] at hown2
    rw [← e1]; exact Option.some.inj (X.2.2.2.1.symm.trans hown2)
  have h6 := u_fits hfc hkC hkind (Or.inr hlay) hi (F.2.2.2.2.1 k hN) hn hfit
  refine W.putFinK X.1 X.2.1 X.2.2.2.1 (hts _ q) hi hst hcf hin (by rw [q2]; exact h6) q1 q3 (by rw [hsl]; exact k2_hasslot (q4 k hN)) rfl rfl d fun H' z1 z2 z3 => ?_
  rw [hsl] at z1 ⊢
  refine kk H' _ ls (h1.set hl e1 e2 e3 z2 z3 ?_) (h2.put z2 z3 (Nat.le_add_right _ _)) h3
  rw [enc_obj (k := ci) (by rw [e2]; exact hk) F.2.1, ← hw]
  exact ⟨_, F.1, t_OB.to (V := updV (vp_V (fvs V w a ci)) k v) ⟨_, z1, q2, q3, t_set q4 hap hN v⟩ (fun j _ => vp_updV_set (by rw [fvs_len, F.2.2.1]; exact hN) v j)⟩
theorem g_putFI (X : Cx t V cc nL own) {ci a index : Nat} {C : String} {T : u_T} {N : Nat} {ty : Nat → FieldType} (F : Fc ci C T N ty) (hk : wK w a = ci) (k : Nat) (hN : k < N) (hf : frf ci k = false) (q : Cond.fieldLink own index (T k).1 (T k).2.1 (T k).2.2.1 ∈ gw) (hfin : (T k).2.2.2 = true) (hin : (tMe t).name = "<init>") (hdecl : C = own) {x : Int32} (hn : narrow (ty k) (.int x) = .int x) (hfit : fits (ty k) (.int x) = true) (d : decode cc pc = .ok (.putfield index, 3)) (kk : Gd t V nL ce sl Q (pc + 3) lv st (sI w a k x)) : Gd t V nL ce sl Q pc lv (.int x :: rf V a :: st) w :=
  g_putF0 X F hk k hN q hfin hin hdecl hn hfit (fvs_sI hf x) rfl (fun _ => rfl) (fun _ h => enc_sF h) d kk
theorem g_putFR (X : Cx t V cc nL own) {ci a index b : Nat} {C : String} {T : u_T} {N : Nat} {ty : Nat → FieldType} (F : Fc ci C T N ty) (hk : wK w a = ci) (k : Nat) (hN : k < N) (hf : frf ci k = true) (q : Cond.fieldLink own index (T k).1 (T k).2.1 (T k).2.2.1 ∈ gw) (hfin : (T k).2.2.2 = true) (hin : (tMe t).name = "<init>") (hdecl : C = own) (hn : narrow (ty k) (rf V b) = rf V b) (hfit : fits (ty k) (rf V b) = true) (d : decode cc pc = .ok (.putfield index, 3)) (kk : Gd t V nL ce sl Q (pc + 3) lv st (sR w a k (some b))) : Gd t V nL ce sl Q pc lv (rf V b :: rf V a :: st) w :=
  g_putF0 X F hk k hN q hfin hin hdecl hn hfit (fvs_sR hf (some b)) rfl (fun _ => rfl) (fun _ h => enc_sR h) d kk
end GR
end
section
/-! ROWS OF THE FLAT WORLD: arrays, new cells, calls, ends -/
def ib (i : Int32) (n : Nat) : Bool := decide (0 ≤ i.toInt) && decide (i.toInt < (n : Int))
abbrev nx (i : Int32) : Nat := i.toNatClampNeg
theorem ib_in {i : Int32} {n : Nat} (h : ib i n = true) : vp_in i n := by
  simp only [ib, Bool.and_eq_true, decide_eq_true_eq] at h
  exact vp_in_iff.mpr h
theorem ib_of {i : Int32} {n : Nat} (h : vp_in i n) : ib i n = true := by
  simp only [ib, Bool.and_eq_true, decide_eq_true_eq]
  exact vp_in_iff.mp h
theorem ib_nI {k n : Nat} (h : k < n) (hn : n < 2 ^ 31) : ib (nI k) n = true := ib_of (vp_in_nI h hn)
theorem enc_sIa {V : Vt} {w : Wd} {a k : Nat} {f : Nat → Int32} (hk : wK w a = k) (h : ¬ k < 10) (h2 : k < 13) : enc V (sF w a f) a = .inl (V.2.2.1 k, wL w a, .inl f) := by
  have := enc_int (V := V) (w := sF w a f) (a := a) (k := k) hk h h2
  rw [this]
  have : wI (sF w a f) a = f := va_up_self _ _ _
  rw [this]; rfl
theorem enc_sRa {V : Vt} {w : Wd} {a k j : Nat} {v : Option Nat} (hk : wK w a = k) (h2 : ¬ k < 13) : enc V (sR w a j v) a = .inl (V.2.2.1 k, wL w a, .inr (.inr (.inr (.inr (fun i => (va_up (wR w a) j v i).map (fun k => V.1 + k)))))) := by
  have := enc_ref (V := V) (w := sR w a j v) (a := a) (k := k) hk h2
  rw [this]
  have : wR (sR w a j v) a = va_up (wR w a) j v := va_up_self _ _ _
  rw [this]; rfl
section GR2
variable {t : Ct} {V : Vt} {cc : ByteArray} {nL ce sl : Nat} {own : String} {Q : State → Prop} {pc : Nat} {lv : List (Nat × Value)} {st : List Value} {w : Wd}
theorem g_iaload (X : Cx t V cc nL own) {a : Nat} {i : Int32} (hk : wK w a = 11) (hi : ib i (wL w a) = true) (d : decode cc pc = .ok (.iaload, 1)) (kk : Gd t V nL ce sl Q (pc + 1) lv (.int (wI w a (nx i)) :: st) w) : Gd t V nL ce sl Q pc lv (.int i :: rf V a :: st) w :=
  fun H locs ls h1 h2 h3 => va_iald X.1 X.2.1 X.2.2.2.2.2.2.1 (h1.int hk (by decide) (by decide)) 0 1 rfl rfl (ib_in hi) d (kk H locs ls h1 h2 h3)
theorem g_caload (X : Cx t V cc nL own) {a : Nat} {i : Int32} (hk : wK w a = 10) (hi : ib i (wL w a) = true) (d : decode cc pc = .ok (.caload, 1)) (kk : Gd t V nL ce sl Q (pc + 1) lv (.int (wI w a (nx i)) :: st) w) : Gd t V nL ce sl Q pc lv (.int i :: rf V a :: st) w :=
  fun H locs ls h1 h2 h3 => va_cald X.1 X.2.1 X.2.2.2.2.2.2.1 (h1.int hk (by decide) (by decide)) 0 0 rfl rfl (ib_in hi) d (kk H locs ls h1 h2 h3)
theorem g_baload (X : Cx t V cc nL own) {a : Nat} {i : Int32} (hk : wK w a = 12) (hi : ib i (wL w a) = true) (d : decode cc pc = .ok (.baload, 1)) (kk : Gd t V nL ce sl Q (pc + 1) lv (.int (wI w a (nx i)) :: st) w) : Gd t V nL ce sl Q pc lv (.int i :: rf V a :: st) w :=
  fun H locs ls h1 h2 h3 => va_zald X.1 X.2.1 X.2.2.2.2.2.2.1 (h1.int hk (by decide) (by decide)) 0 2 rfl rfl (ib_in hi) d (kk H locs ls h1 h2 h3)
theorem g_alen (X : Cx t V cc nL own) {a : Nat} (hk : wK w a = 11) (d : decode cc pc = .ok (.arraylength, 1)) (kk : Gd t V nL ce sl Q (pc + 1) lv (.int (nI (wL w a)) :: st) w) : Gd t V nL ce sl Q pc lv (rf V a :: st) w :=
  fun H locs ls h1 h2 h3 => va_alen X.1 X.2.1 X.2.2.2.2.2.2.1 (h1.int hk (by decide) (by decide)) 0 1 rfl rfl rfl d (kk H locs ls h1 h2 h3)
theorem g_aaload (X : Cx t V cc nL own) {a b k : Nat} {C : String} {i : Int32} (hk : wK w a = k) (hk1 : ¬ k < 13) (hk2 : k < 17) (ht : (tyl V)[k - 10]? = some (V.2.2.1 k, .object C)) (hi : ib i (wL w a) = true) (hr : wR w a (nx i) = some b) (d : decode cc pc = .ok (.aaload, 1)) (kk : Gd t V nL ce sl Q (pc + 1) lv (rf V b :: st) w) : Gd t V nL ce sl Q pc lv (.int i :: rf V a :: st) w := by
  intro H locs ls h1 h2 h3
  refine va_aldq X.1 X.2.1 X.2.2.2.2.2.2.1 (h1.refs hk hk1 (by omega)) 0 (k - 10) rfl ht (ib_in hi) d ?_
  have e : va_rf ((wR w a i.toNatClampNeg).map (fun k => V.1 + k)) = rf V b := by
    have hr' : wR w a i.toNatClampNeg = some b := hr
    rw [hr']; rfl
  rw [e]
  exact kk H locs ls h1 h2 h3
theorem g_iastore (X : Cx t V cc nL own) {a : Nat} {i x : Int32} (hk : wK w a = 11) (hi : ib i (wL w a) = true) (d : decode cc pc = .ok (.iastore, 1)) (kk : Gd t V nL ce sl Q (pc + 1) lv st (sI w a (nx i) x)) : Gd t V nL ce sl Q pc lv (.int x :: .int i :: rf V a :: st) w := by
  intro H locs ls h1 h2 h3
  have hP := h1.int hk (by decide) (by decide)
  have hl := h1.lt hk (by decide)
  refine W.iast X.1 X.2.1 (hP 0 _ rfl) ((X.2.2.2.2.2.2.1.2 1 _ rfl).1 (wL w a) (fun j => .int (wI w a j))) (fun q => by cases q) (by show ¬ (i < 0 ∨ (arrV _ _ _).slots.size ≤ _); rw [arrV_size]; exact ib_in hi) rfl rfl d fun H1 e z oq => ?_
  refine kk H1 _ ls (h1.set hl rfl (fun _ => rfl) (fun b hb => enc_sF hb) z oq ?_) (h2.put z oq (Nat.le_add_right _ _)) h3
  rw [show sI w a (nx i) x = sF w a (upd (wI w a) (nx i) x) from rfl, enc_sIa hk (by decide) (by decide)]
  show H1[V.1 + a]? = some (vp_cell _ _)
  rw [e, vp_cell_i, vp_cell_i, arrV_store]
  congr 2
  funext q
  by_cases hq : q = i.toNatClampNeg
  · subst hq
    simp [updV, upd]
  · simp [updV, upd, hq]
theorem g_bastore (X : Cx t V cc nL own) {a : Nat} {i x : Int32} (hk : wK w a = 12) (hi : ib i (wL w a) = true) (hx : narrow .boolean (.int x) = .int x) (d : decode cc pc = .ok (.bastore, 1)) (kk : Gd t V nL ce sl Q (pc + 1) lv st (sI w a (nx i) x)) : Gd t V nL ce sl Q pc lv (.int x :: .int i :: rf V a :: st) w := by
  intro H locs ls h1 h2 h3
  have hP := h1.int hk (by decide) (by decide)
  have hl := h1.lt hk (by decide)
  refine W.zast X.1 X.2.1 (hP 0 _ rfl) ((X.2.2.2.2.2.2.1.2 2 _ rfl).1 (wL w a) (fun j => .int (wI w a j))) (fun q => by cases q) (by show ¬ (i < 0 ∨ (arrV _ _ _).slots.size ≤ _); rw [arrV_size]; exact ib_in hi) rfl rfl d fun H1 e z oq => ?_
  refine kk H1 _ ls (h1.set hl rfl (fun _ => rfl) (fun b hb => enc_sF hb) z oq ?_) (h2.put z oq (Nat.le_add_right _ _)) h3
  rw [show sI w a (nx i) x = sF w a (upd (wI w a) (nx i) x) from rfl, enc_sIa hk (by decide) (by decide)]
  show H1[V.1 + a]? = some (vp_cell _ _)
  rw [e, hx, vp_cell_i, vp_cell_i, arrV_store]
  congr 2
  funext q
  by_cases hq : q = i.toNatClampNeg
  · subst hq
    simp [updV, upd]
  · simp [updV, upd, hq]
theorem g_castore (X : Cx t V cc nL own) {a : Nat} {i x : Int32} (hk : wK w a = 10) (hi : ib i (wL w a) = true) (hx : narrow .char (.int x) = .int x) (d : decode cc pc = .ok (.castore, 1)) (kk : Gd t V nL ce sl Q (pc + 1) lv st (sI w a (nx i) x)) : Gd t V nL ce sl Q pc lv (.int x :: .int i :: rf V a :: st) w := by
  intro H locs ls h1 h2 h3
  have hP := h1.int hk (by decide) (by decide)
  have hl := h1.lt hk (by decide)
  refine W.cast X.1 X.2.1 (hP 0 _ rfl) ((X.2.2.2.2.2.2.1.2 0 _ rfl).1 (wL w a) (fun j => .int (wI w a j))) (fun q => by cases q) (by show ¬ (i < 0 ∨ (arrV _ _ _).slots.size ≤ _); rw [arrV_size]; exact ib_in hi) rfl rfl d fun H1 e z oq => ?_
  refine kk H1 _ ls (h1.set hl rfl (fun _ => rfl) (fun b hb => enc_sF hb) z oq ?_) (h2.put z oq (Nat.le_add_right _ _)) h3
  rw [show sI w a (nx i) x = sF w a (upd (wI w a) (nx i) x) from rfl, enc_sIa hk (by decide) (by decide)]
  show H1[V.1 + a]? = some (vp_cell _ _)
  rw [e, hx, vp_cell_i, vp_cell_i, arrV_store]
  congr 2
  funext q
  by_cases hq : q = i.toNatClampNeg
  · subst hq
    simp [updV, upd]
  · simp [updV, upd, hq]
theorem g_aastore (X : Cx t V cc nL own) {a b k ci : Nat} {C : String} {T : u_T} {N : Nat} {ty : Nat → FieldType} {i : Int32} (F : Fc ci C T N ty) (hb : wK w b = ci) (hk : wK w a = k) (hk1 : ¬ k < 13) (hk2 : k < 17) (ht : (tyl V)[k - 10]? = some (V.2.2.1 k, .object C)) (hi : ib i (wL w a) = true) (d : decode cc pc = .ok (.aastore, 1)) (kk : Gd t V nL ce sl Q (pc + 1) lv st (sR w a (nx i) (some b))) : Gd t V nL ce sl Q pc lv (rf V b :: .int i :: rf V a :: st) w := by
  intro H locs ls h1 h2 h3
  have hP := h1.refs hk hk1 (by omega)
  have hO := h1.obj hb F.2.1
  have hl := h1.lt hk (by omega)
  have hin := ib_in hi
  have hlt : i.toNatClampNeg < wL w a := Nat.not_le.mp fun q => hin (Or.inr q)
  have h0 : ¬ i < 0 := fun q => hin (Or.inl q)
  have hK := X.2.2.2.2.2.2.1
  obtain ⟨r', hr', cellV, g1, g2, g3, -⟩ := hO 0 _ rfl
  have hcls := (hK.1 ci _ F.1).2
  obtain ⟨kA, comp, k1, k2, k3, -⟩ := (hK.2 (k - 10) _ ht).2
  have hcomp : comp = V.2.1.1 ci := Option.some.inj (k3.symm.trans hcls.1)
  subst hcomp
  obtain ⟨kC, hkC, -⟩ := hcls.2
  refine W.aast X.1 X.2.1 (hP 0 _ rfl) (fun q h => by cases h) (fun h => by cases h) k1 k2 rfl hkC ⟨h0, by show _ < (arrV _ _ _).slots.size; rw [arrV_size]; exact hlt⟩ g1 (fun q h => by rw [g3] at h; cases h) (by rw [g2]; exact hkC) (by rw [g2]; exact va_assign hcls) rfl rfl d fun H1 e z oq => ?_
  refine kk H1 _ ls (h1.set hl rfl (fun _ => rfl) (fun b hb => enc_sR hb) z oq ?_) (h2.put z oq (Nat.le_add_right _ _)) h3
  rw [enc_sRa hk hk1]
  show H1[V.1 + a]? = some (vp_cell _ _)
  rw [e, vp_cell_q, vp_cell_q, arrV_store]
  congr 2
  funext q
  by_cases hq : q = i.toNatClampNeg
  · subst hq
    simp [updV, va_up, va_rf]
  · simp [updV, va_up, hq]
/-! new cells -/
theorem g_new (X : Cx t V cc nL own) {ci index : Nat} {C : String} {T : u_T} {N : Nat} {ty : Nat → FieldType} (F : Fc ci C T N ty) (hdf : ∀ j, j < N → defaultValue (ty j) = if frf ci j = true then Value.null else .int 0) (q1 : Cond.classLink own index C ∈ gw) (q2 : Cond.instantiable C N ∈ gw) (q3 : Cond.initialized C ∈ gw) (hc : ce + 1 ≤ (tR t).cells) (hs : sl + N ≤ (tR t).slots) (d : decode cc pc = .ok (.new index, 3)) (kk : Gd t V nL (ce + 1) (sl + N) Q (pc + 3) lv (rf V (wN w) :: st) (nC w ci N)) : Gd t V nL ce sl Q pc lv st w := by
  intro H locs ls h1 h2 h3
  have hts := X.2.2.2.2.1
  have hKn := X.2.2.2.2.2.2.1.1 ci _ F.1
  refine W.newcK X.1 X.2.1 X.2.2.2.1 (hts _ q1) (hts _ q2) (hts _ q3) rfl d hc hs hKn.2.1 h1.1 fun H1 kC hkC e1 z1 o1 => ?_
  refine kk H1 locs ls (h1.new ci N (by rw [h1.1]; exact z1) (fun q hq => o1 q (by rw [← h1.1]; exact hq)) ?_) ⟨by have := h2.1; rw [h1.1] at this; omega, fun q g1 g2 => (o1 q (by have := h2.1; rw [h1.1] at this; omega)).trans (h2.2.1 q g1 g2), h2.2.2⟩ h3
  have ek : wK (nC w ci N) (wN w) = ci := va_up_self _ _ _
  rw [enc_obj ek F.2.1]
  refine ⟨_, F.1, (u_born ty hts F.2.2.2.1 hKn hkC e1 F.2.2.2.2.1).to (fun j hj => ?_)⟩
  have e3 : wI (nC w ci N) (wN w) = fun _ => 0 := va_up_self _ _ _
  have e4 : wR (nC w ci N) (wN w) = fun _ => none := va_up_self _ _ _
  have hj' : j < fN ci := by rw [F.2.2.1]; exact hj
  rw [hdf j hj, vp_V, List.getD_eq_getElem?_getD, fvs_at hj', fv, e3, e4]
  rfl
theorem g_newarr (X : Cx t V cc nL own) {atype : ArrayType} {k : Nat} {fty : FieldType} (hty : newarray.typeOf atype = fty) (hk1 : ¬ k < 10) (hk2 : k < 13) (ht : (tyl V)[k - 10]? = some (V.2.2.1 k, fty)) (hra : ∀ (U : State) (c : ClassId), va_RA U c fty → U.vm.findClass ("[" ++ fty.toString) = some c) (hdv : defaultValue fty = .int 0) (q : Cond.arrayClass fty ∈ gw) {n : Int32} {N : Nat} (hn : ¬ n < 0) (hN : n.toNatClampNeg = N) (hb : N * componentBytes fty ≤ 536870912) (hc : ce + 1 ≤ (tR t).cells) (hs : sl + N ≤ (tR t).slots) (d : decode cc pc = .ok (.newarray atype, 2)) (kk : Gd t V nL (ce + 1) (sl + N) Q (pc + 2) lv (rf V (wN w) :: st) (nC w k N)) : Gd t V nL ce sl Q pc lv (.int n :: st) w := by
  subst hty
  intro H locs ls h1 h2 h3
  refine va_newaK X.1 X.2.1 (X.2.2.2.2.1 _ q) rfl d rfl hn hN hb hc hs h1.1 fun H1 cA e1 z1 o1 hAr hNm => ?_
  have hcA : cA = V.2.2.1 k := Option.some.inj (hNm.symm.trans (hra _ _ (X.2.2.2.2.2.2.1.2 (k - 10) _ ht).2))
  subst hcA
  refine kk H1 locs ls (h1.new k N (by rw [h1.1]; exact z1) (fun q hq => o1 q (by rw [← h1.1]; exact hq)) ?_) ⟨by have := h2.1; rw [h1.1] at this; omega, fun q g1 g2 => (o1 q (by have := h2.1; rw [h1.1] at this; omega)).trans (h2.2.1 q g1 g2), h2.2.2⟩ h3
  have ek : wK (nC w k N) (wN w) = k := va_up_self _ _ _
  have e2 : wL (nC w k N) (wN w) = N := va_up_self _ _ _
  have e3 : wI (nC w k N) (wN w) = fun _ => 0 := va_up_self _ _ _
  rw [enc_int ek hk1 hk2, e2, e3]
  show H1[V.1 + wN w]? = some (vp_cell _ _)
  rw [vp_cell_i, e1, hdv]
theorem g_anew (X : Cx t V cc nL own) {C : String} {k index : Nat} (hk1 : ¬ k < 13) (hk2 : k < 17) (ht : (tyl V)[k - 10]? = some (V.2.2.1 k, .object C)) (q : Cond.classLink own index C ∈ gw) (ha : C ∈ aoL) {n : Int32} {N : Nat} (hn : ¬ n < 0) (hN : n.toNatClampNeg = N) (hb : N * 4 ≤ 536870912) (hc : ce + 1 ≤ (tR t).cells) (hs : sl + N ≤ (tR t).slots) (d : decode cc pc = .ok (.anewarray index, 3)) (kk : Gd t V nL (ce + 1) (sl + N) Q (pc + 3) lv (rf V (wN w) :: st) (nC w k N)) : Gd t V nL ce sl Q pc lv (.int n :: st) w := by
  subst hN
  intro H locs ls h1 h2 h3
  refine W.anew X.1 X.2.1 X.2.2.2.1 (X.2.2.2.2.1 _ q) (va_AO.use (X.2.2.2.2.2.2.2.2.1 C ha)) rfl d rfl hn hb hc hs fun cA kA comp f1 f2 f3 f4 => ?_
  obtain ⟨kA', comp', k1, k2, k3, k4⟩ := (X.2.2.2.2.2.2.1.2 (k - 10) _ ht).2
  have hcA : cA = V.2.2.1 k := Option.some.inj (f1.symm.trans k4)
  subst hcA
  generalize hH1 : H.push ({ cls := V.2.2.1 k, slots := Array.replicate n.toNatClampNeg .null, vm := .none } : Cell) = H1
  have z1 : H1.size = H.size + 1 := by rw [← hH1, Array.size_push]
  have e1 : H1[H.size]? = some (arrV (V.2.2.1 k) n.toNatClampNeg (fun _ => .null)) := by rw [← hH1, Array.getElem?_push_size, ← arrV_new]
  have o1 : ∀ q : Nat, q < H.size → H1[q]? = H[q]? := fun q hq => by rw [← hH1, Array.getElem?_push, if_neg (Nat.ne_of_lt hq)]
  rw [h1.1] at e1
  have hz : F0 (tM t) (pc + 3) ls (.ref H.size :: st) = F0 (tM t) (pc + 3) ls (rf V (wN w) :: st) := by rw [h1.1]
  refine W.eq hz ?_
  refine kk H1 locs ls (h1.new k _ z1 o1 ?_) ⟨by have := h2.1; omega, fun q g1 g2 => (o1 q (by have := h2.1; omega)).trans (h2.2.1 q g1 g2), h2.2.2⟩ h3
  have ek : wK (nC w k n.toNatClampNeg) (wN w) = k := va_up_self _ _ _
  have e2 : wL (nC w k n.toNatClampNeg) (wN w) = n.toNatClampNeg := va_up_self _ _ _
  have e4 : wR (nC w k n.toNatClampNeg) (wN w) = fun _ => none := va_up_self _ _ _
  rw [enc_ref ek hk1, e2, e4]
  show H1[V.1 + wN w]? = some (vp_cell _ _)
  rw [vp_cell_q, e1]
  rfl
theorem g_objInit (X : Cx t V cc nL own) {idx a : Nat} (q1 : Cond.methodLink own idx Lib.objectInit ∈ gw) (q2 : Cond.instanceMethod Lib.objectInit ∈ gw) (q3 : Cond.code Lib.objectInit ⟨#[0xb1]⟩ 1 none ∈ gw) (hf : 1 ≤ (tR t).frames) (hlo : 0 + (st.map fun v => v.category).sum + 12 ≤ (tR t).locals) (d : decode cc pc = .ok (.invokespecial idx, 3)) (kk : Gd t V nL ce sl Q (pc + 3) lv st w) : Gd t V nL ce sl Q pc lv (rf V a :: st) w := by
  intro H locs ls h1 h2 h3
  have hts := X.2.2.2.2.1
  exact W.objInit X.1 X.2.1 X.2.2.2.1 (hts _ q1) (hts _ q2) (hts _ q3) rfl (by rw [X.2.2.1]; exact h3.1) rfl d hf hlo (kk H locs ls h1 h2 h3)
/-! calls -/
theorem g_run {rest st' : List Value} {ov : Option Value} {w' : Wd} {mc ms : Nat} {a : Array Value} (hr : ∀ (H : Heap) (locs : List Loc) (ls : Array Slot), Rp V w H → va_S (AA V) (tS t).heap H locs → lv_has ls nL lv → va_Run t.1 t.2.1 t.2.2.1 t.2.2.2.1 t.2.2.2.2.1 t.2.2.2.2.2.1 t.2.2.2.2.2.2.1 t.2.2.2.2.2.2.2.1 t.2.2.2.2.2.2.2.2.1 t.2.2.2.2.2.2.2.2.2 H locs ce sl mc ms (F0 (tM t) pc ls st) rest (QcV V ov w' a) (AA V)) (hv : ov.toList ++ rest = st') (kk : Gd t V nL (ce + mc) (sl + ms) Q (pc + 3) lv st' w') : Gd t V nL ce sl Q pc lv st w := by
  intro H locs ls h1 h2 h3 T hT Xs
  obtain ⟨v, st₀, t', T', L, h0, X', hL, e1, e2, ⟨hv', hRp, hz, hk⟩, stp⟩ := hr H locs ls h1 h2 h3 T hT Xs
  cases hv'
  rw [h0] at hz hk
  rw [hv] at stp
  obtain ⟨t2, a1, b1⟩ := kk T'.heap (locs ++ L) ls (by rw [e1]; exact hRp)
    ⟨Nat.le_trans h2.1 (by rw [e1]; exact hz), fun q g1 g2 => by rw [e1, hk q (Nat.lt_of_lt_of_le g1 h2.1) g2]; exact h2.2.1 q g1 g2, fun q hq => by
      rcases List.mem_append.mp hq with h | h
      · exact h2.2.2 q h
      · exact hL q h⟩ h3 T' rfl X'
  exact ⟨t2, stp t2 a1, b1⟩
/-- what the tables say of a method -/
def Mk (y : MethodName) (bytes : ByteArray) (maxL : Nat) (ret : Option FieldType) (n : Nat) : Prop := Cond.code y bytes maxL ret ∈ gw ∧ Cond.initialized y.cls ∈ gw ∧ (y.cls ≠ "java/lang/invoke/MethodHandle" ∧ y.cls ≠ "java/lang/invoke/VarHandle" ∧ (parseMethodDescriptor y.desc).map (fun d => d.parameters.length) = some n)
theorem g_callB {y : MethodName} {bytes : ByteArray} {maxL mc ms n index : Nat} {ret : Option FieldType} {rm : Room} (X : Cx t V cc nL own) (P : Mk y bytes maxL ret n) (q : Cond.methodLink own index y ∈ gw) (hrc : rm.cells = mc) (hrs : rm.slots = ms) (hR : rm.frames + 1 ≤ (tR t).frames ∧ 8 + (maxL + 11) + rm.locals ≤ (tR t).locals) : CallB (tR t) (tS t) (tA t) own index y bytes maxL ret (wsM y bytes maxL ret) rm mc ms n :=
  callB_of (Ts := (Cond.initialized y.cls) :: gw) n (fun w hw => by
    rcases List.mem_cons.mp hw with e | e
    · subst e; exact X.2.2.2.2.1 _ P.2.1
    · exact X.2.2.2.2.1 _ e) (gw_in P.1) rfl hrc hrs (X.2.2.2.2.1 _ P.2.1) (X.2.2.2.2.1 _ q) P.2.2 hR
theorem g_callV {y : MethodName} {bytes : ByteArray} {maxL mc ms n index ci a : Nat} {ret : Option FieldType} {rm : Room} {T : u_T} {N : Nat} {ty : Nat → FieldType} {As rest st' : List Value} {ov : Option Value} {w' : Wd} (X : Cx t V cc nL own) (F : Fc ci y.cls T N ty) (hk : wK w a = ci) (P : Mk y bytes maxL ret n) (q1 : Cond.instanceMethod y ∈ gw) (q2 : Cond.selects y.cls y y ∈ gw) (q : Cond.methodLink own index y ∈ gw) (M : MetW t.2.1 V y bytes maxL ret rm w (rf V a :: As) ov w' mc ms) (hrc : rm.cells = mc) (hrs : rm.slots = ms) (hR : rm.frames + 1 ≤ (tR t).frames ∧ 8 + (maxL + 11) + rm.locals ≤ (tR t).locals) (hn : As.length = n) (hst : st = As.reverse ++ rf V a :: rest) (hW : 0 + (rest.map fun v => v.category).sum ≤ 8) (hf : ce + mc ≤ (tR t).cells ∧ sl + ms ≤ (tR t).slots) (d : decode cc pc = .ok (.invokevirtual index, 3)) (hv : ov.toList ++ rest = st') (kk : Gd t V nL (ce + mc) (sl + ms) Q (pc + 3) lv st' w') : Gd t V nL ce sl Q pc lv st w := by
  refine g_run (a := #[]) (fun H locs ls h1 h2 h3 => ?_) hv kk
  exact va_runV (C := y.cls) (As := As) (rest := rest) (b := V.1 + a) (Ts := gw) ⟨X.1, X.2.1, X.2.2.1, X.2.2.2.1, X.2.2.2.2.1⟩ M ⟨g_callB X P q hrc hrs hR, X.2.2.2.2.1 _ q1, X.2.2.2.2.1 _ q2⟩ ⟨PcM.blind V w _, va_recv X.2.2.2.2.2.2.1 (h1.obj hk F.2.1) (ci := ci) (q0 := 0) F.1 rfl, fun U hU hW => ⟨rfl, X.2.2.2.2.2.2.go h2 hU hW, by rw [hU]; exact h1⟩⟩ rfl hn h3.1 hst hW d hf
theorem g_callS {y : MethodName} {bytes : ByteArray} {maxL mc ms n index : Nat} {ret : Option FieldType} {rm : Room} {As rest st' : List Value} {ov : Option Value} {w' : Wd} (X : Cx t V cc nL own) (P : Mk y bytes maxL ret n) (q1 : Cond.static y ∈ gw) (q : Cond.methodLink own index y ∈ gw) (M : MetW t.2.1 V y bytes maxL ret rm w As ov w' mc ms) (hrc : rm.cells = mc) (hrs : rm.slots = ms) (hR : rm.frames + 1 ≤ (tR t).frames ∧ 8 + (maxL + 11) + rm.locals ≤ (tR t).locals) (hn : As.length = n) (hst : st = As.reverse ++ rest) (hW : 0 + (rest.map fun v => v.category).sum ≤ 8) (hf : ce + mc ≤ (tR t).cells ∧ sl + ms ≤ (tR t).slots) (d : decode cc pc = .ok (.invokestatic index, 3)) (hv : ov.toList ++ rest = st') (kk : Gd t V nL (ce + mc) (sl + ms) Q (pc + 3) lv st' w') : Gd t V nL ce sl Q pc lv st w := by
  refine g_run (a := #[]) (fun H locs ls h1 h2 h3 => ?_) hv kk
  exact va_runS (As := As) (rest := rest) (Ts := gw) ⟨X.1, X.2.1, X.2.2.1, X.2.2.2.1, X.2.2.2.2.1⟩ M ⟨g_callB X P q hrc hrs hR, X.2.2.2.2.1 _ q1⟩ ⟨PcM.blind V w _, fun U hU hW => ⟨rfl, X.2.2.2.2.2.2.go h2 hU hW, by rw [hU]; exact h1⟩⟩ rfl hn h3.1 hst hW d hf
theorem g_callN {y : MethodName} {bytes : ByteArray} {maxL mc ms n index : Nat} {ret : Option FieldType} {rm : Room} {host : String} (X : Cx t V cc nL own) (P : Mk y bytes maxL ret n) (q : Cond.methodLinkNest own index y host ∈ nwL) (hrc : rm.cells = mc) (hrs : rm.slots = ms) (hR : rm.frames + 1 ≤ (tR t).frames ∧ 8 + (maxL + 11) + rm.locals ≤ (tR t).locals) : va_CN (tR t) (tS t) (tA t) own index y host bytes maxL ret (wsM y bytes maxL ret) rm mc ms n :=
  va_cnB (Ts := (Cond.initialized y.cls) :: gw) n (fun w hw => by
    rcases List.mem_cons.mp hw with e | e
    · subst e; exact X.2.2.2.2.1 _ P.2.1
    · exact X.2.2.2.2.1 _ e) (gw_in P.1) rfl hrc hrs (X.2.2.2.2.2.2.2.1 _ q) (X.2.2.2.2.1 _ P.2.1) P.2.2 hR
theorem g_callSN {y : MethodName} {bytes : ByteArray} {maxL mc ms n index : Nat} {ret : Option FieldType} {rm : Room} {host : String} {As rest st' : List Value} {ov : Option Value} {w' : Wd} (X : Cx t V cc nL own) (P : Mk y bytes maxL ret n) (q1 : Cond.static y ∈ gw) (q : Cond.methodLinkNest own index y host ∈ nwL) (M : MetW t.2.1 V y bytes maxL ret rm w As ov w' mc ms) (hrc : rm.cells = mc) (hrs : rm.slots = ms) (hR : rm.frames + 1 ≤ (tR t).frames ∧ 8 + (maxL + 11) + rm.locals ≤ (tR t).locals) (hn : As.length = n) (hst : st = As.reverse ++ rest) (hW : 0 + (rest.map fun v => v.category).sum ≤ 8) (hf : ce + mc ≤ (tR t).cells ∧ sl + ms ≤ (tR t).slots) (d : decode cc pc = .ok (.invokestatic index, 3)) (hv : ov.toList ++ rest = st') (kk : Gd t V nL (ce + mc) (sl + ms) Q (pc + 3) lv st' w') : Gd t V nL ce sl Q pc lv st w := by
  refine g_run (a := #[]) (fun H locs ls h1 h2 h3 => ?_) hv kk
  exact va_runSN (As := As) (rest := rest) (Ts := gw) ⟨X.1, X.2.1, X.2.2.1, X.2.2.2.1, X.2.2.2.2.1⟩ M ⟨g_callN X P q hrc hrs hR, X.2.2.2.2.1 _ q1, trivial⟩ ⟨PcM.blind V w _, fun U hU hW => ⟨rfl, X.2.2.2.2.2.2.go h2 hU hW, by rw [hU]; exact h1⟩⟩ rfl hn h3.1 hst hW d hf
theorem g_callI {y : MethodName} {bytes : ByteArray} {maxL mc ms n index a : Nat} {rm : Room} {As rest st' : List Value} {w' : Wd} (X : Cx t V cc nL own) (P : Mk y bytes maxL none n) (q0 : y.name = "<init>") (q1 : Cond.instanceMethod y ∈ gw) (q : Cond.methodLink own index y ∈ gw) (M : MetW t.2.1 V y bytes maxL none rm w (rf V a :: As) none w' mc ms) (hrc : rm.cells = mc) (hrs : rm.slots = ms) (hR : rm.frames + 1 ≤ (tR t).frames ∧ 8 + (maxL + 11) + rm.locals ≤ (tR t).locals) (hn : As.length = n) (hst : st = As.reverse ++ rf V a :: rest) (hW : 0 + (rest.map fun v => v.category).sum ≤ 8) (hf : ce + mc ≤ (tR t).cells ∧ sl + ms ≤ (tR t).slots) (d : decode cc pc = .ok (.invokespecial index, 3)) (hv : rest = st') (kk : Gd t V nL (ce + mc) (sl + ms) Q (pc + 3) lv st' w') : Gd t V nL ce sl Q pc lv st w := by
  refine g_run (a := #[]) (ov := none) (rest := rest) (fun H locs ls h1 h2 h3 => ?_) hv kk
  exact va_runI (As := As) (rest := rest) (b := V.1 + a) (Ts := gw) ⟨X.1, X.2.1, X.2.2.1, X.2.2.2.1, X.2.2.2.2.1⟩ M ⟨g_callB X P q hrc hrs hR, q0, X.2.2.2.2.1 _ q1⟩ ⟨PcM.blind V w _, fun U hU hW => ⟨rfl, X.2.2.2.2.2.2.go h2 hU hW, by rw [hU]; exact h1⟩⟩ rfl hn h3.1 hst hW d hf
theorem g_callIN {y : MethodName} {bytes : ByteArray} {maxL mc ms n index a : Nat} {rm : Room} {host : String} {As rest st' : List Value} {w' : Wd} (X : Cx t V cc nL own) (P : Mk y bytes maxL none n) (q0 : y.name = "<init>") (q1 : Cond.instanceMethod y ∈ gw) (q : Cond.methodLinkNest own index y host ∈ nwL) (M : MetW t.2.1 V y bytes maxL none rm w (rf V a :: As) none w' mc ms) (hrc : rm.cells = mc) (hrs : rm.slots = ms) (hR : rm.frames + 1 ≤ (tR t).frames ∧ 8 + (maxL + 11) + rm.locals ≤ (tR t).locals) (hn : As.length = n) (hst : st = As.reverse ++ rf V a :: rest) (hW : 0 + (rest.map fun v => v.category).sum ≤ 8) (hf : ce + mc ≤ (tR t).cells ∧ sl + ms ≤ (tR t).slots) (d : decode cc pc = .ok (.invokespecial index, 3)) (hv : rest = st') (kk : Gd t V nL (ce + mc) (sl + ms) Q (pc + 3) lv st' w') : Gd t V nL ce sl Q pc lv st w := by
  refine g_run (a := #[]) (ov := none) (rest := rest) (fun H locs ls h1 h2 h3 => ?_) hv kk
  exact va_runIN (As := As) (rest := rest) (b := V.1 + a) (Ts := gw) ⟨X.1, X.2.1, X.2.2.1, X.2.2.2.1, X.2.2.2.2.1⟩ M ⟨g_callN X P q hrc hrs hR, q0, X.2.2.2.2.1 _ q1⟩ ⟨PcM.blind V w _, fun U hU hW => ⟨rfl, X.2.2.2.2.2.2.go h2 hU hW, by rw [hU]; exact h1⟩⟩ rfl hn h3.1 hst hW d hf
/-! ends -/
theorem g_iret (X : Cx t V cc nL own) {mc ms : Nat} {x r : Int32} {w' : Wd} (hr : (tMe t).sig.returnType = some .int) (hc : ce ≤ mc) (hs : sl ≤ ms) (e1 : x = r) (e2 : w = w') (d : decode cc pc = .ok (.ireturn, 1)) : Gd t V nL ce sl (Qe t V (some (.int r)) w' mc ms) pc lv [.int x] w := by
  subst e1; subst e2
  refine g_widen hc hs ?_
  intro H locs ls h1 h2 h3
  exact W.iret X.1 X.2.1 hr (fun t ht hW => ⟨rfl, by rw [ht]; exact h1, h2.F ht⟩) h2.2.2 d X.2.2.2.2.2.1
theorem g_zret (X : Cx t V cc nL own) {mc ms : Nat} {x r : Int32} {w' : Wd} (hr : (tMe t).sig.returnType = some .boolean) (hx : x = 0 ∨ x = 1) (hc : ce ≤ mc) (hs : sl ≤ ms) (e1 : x = r) (e2 : w = w') (d : decode cc pc = .ok (.ireturn, 1)) : Gd t V nL ce sl (Qe t V (some (.int r)) w' mc ms) pc lv [.int x] w := by
  subst e1; subst e2
  refine g_widen hc hs ?_
  intro H locs ls h1 h2 h3
  exact W.zret X.1 X.2.1 hr (by rcases hx with e | e <;> subst e <;> decide +kernel) (fun t ht hW => ⟨rfl, by rw [ht]; exact h1, h2.F ht⟩) h2.2.2 d X.2.2.2.2.2.1
theorem g_vret (X : Cx t V cc nL own) {mc ms : Nat} {w' : Wd} (hr : (tMe t).sig.returnType = none) (hc : ce ≤ mc) (hs : sl ≤ ms) (e2 : w = w') (d : decode cc pc = .ok (.return_, 1)) : Gd t V nL ce sl (Qe t V none w' mc ms) pc lv [] w := by
  subst e2
  refine g_widen hc hs ?_
  intro H locs ls h1 h2 h3
  exact W.vret X.1 X.2.1 hr (fun t ht hW => ⟨rfl, by rw [ht]; exact h1, h2.F ht⟩) h2.2.2 d X.2.2.2.2.2.1
theorem g_aret (X : Cx t V cc nL own) {mc ms : Nat} {rt : FieldType} {x r : Option Nat} {w' : Wd} (hr : (tMe t).sig.returnType = some rt) (hrt : (∃ n, rt = .object n) ∨ ∃ t, rt = .array t) (hc : ce ≤ mc) (hs : sl ≤ ms) (e1 : x = r) (e2 : w = w') (d : decode cc pc = .ok (.areturn, 1)) : Gd t V nL ce sl (Qe t V (some (rq V r)) w' mc ms) pc lv [rq V x] w := by
  subst e1; subst e2
  refine g_widen hc hs ?_
  intro H locs ls h1 h2 h3
  exact W.aret X.1 X.2.1 hr hrt (va_rf_or _) (fun t ht hW => ⟨rfl, by rw [ht]; exact h1, h2.F ht⟩) h2.2.2 d X.2.2.2.2.2.1
end GR2
/-- the head of a method -/
theorem g_start {l : Launch} {V : Vt} {y : MethodName} {bytes : ByteArray} {maxL mc ms : Nat} {ret : Option FieldType} {rm : Room} {w w' : Wd} {av : List Value} {ov : Option Value} (hy : plainName y.cls = true) (hl : (lg_sl av).length ≤ maxL)
    (body : ∀ t : Ct, t.2.1 = l → tR t = rm → Cx t V bytes maxL y.cls → (tMe t).sig.returnType = ret → (tMe t).name = y.name → Gd t V maxL 0 0 (Qe t V ov w' mc ms) 0 (lv_args 0 av) [] w) : MetW l V y bytes maxL ret rm w av ov w' mc ms := by
  refine Met.ofW (cc := bytes) (maxL := maxL) (ret := ret) hy rfl ?_
  intro p e s m args below meth c s₁ Bd hml hv
  obtain ⟨rfl, hE, hP⟩ := hv
  have hts := atoms_spec (ws := wsM y bytes maxL ret) Bd.pre
  have hle := lv_entry av (n := maxL) hl
  rw [lg_entry_eq]
  exact body (p, l, e, rm, s, m, av.toArray, below, meth, c) rfl rfl ⟨Bd.exec, Bd.bytes, hml, findClass_of_methodNamed Bd.named, fun w hw => hts w (List.mem_cons_of_mem _ hw), Bd.notSynchronized, hE⟩ Bd.returns (name_of_methodNamed Bd.named Bd.method).1 s.heap [] _ hP va_S.rf hle
/-! pure forms -/
theorem br_y {c : Prop} [Decidable c] {α : Type} {A B : Option α} {r : α} (hc : c) (h : (if c then A else B) = some r) : A = some r := by rw [if_pos hc] at h; exact h
theorem br_n {c : Prop} [Decidable c] {α : Type} {A B : Option α} {r : α} (hc : ¬ c) (h : (if c then A else B) = some r) : B = some r := by rw [if_neg hc] at h; exact h
theorem gd_i {c : Prop} [Decidable c] {α : Type} {A : Option α} {r : α} (h : (if c then A else none) = some r) : c ∧ A = some r := by
  by_cases hc : c
  · rw [if_pos hc] at h; exact ⟨hc, h⟩
  · rw [if_neg hc] at h; cases h
def bd1 {α β : Type} (o : Option α) (f : α → Option β) : Option β := match o with
  | none => none
  | some a => f a
def bd2 {α β : Type} (o : Option (α × Wd)) (f : α → Wd → Option β) : Option β := match o with
  | none => none
  | some (a, w) => f a w
theorem bd1_i {α β : Type} {o : Option α} {f : α → Option β} {r : β} (h : bd1 o f = some r) : ∃ a, o = some a ∧ f a = some r := by
  cases o with
  | none => cases h
  | some a => exact ⟨a, rfl, h⟩
theorem bd2_i {α β : Type} {o : Option (α × Wd)} {f : α → Wd → Option β} {r : β} (h : bd2 o f = some r) : ∃ a w, o = some (a, w) ∧ f a w = some r := by
  cases o with
  | none => cases h
  | some q => exact ⟨q.1, q.2, rfl, h⟩
theorem rt_i {α : Type} {a r : α} {w w' : Wd} (h : some (a, w) = some (r, w')) : a = r ∧ w = w' := by
  have := Option.some.inj h
  exact ⟨congrArg Prod.fst this, congrArg Prod.snd this⟩
def FU : Nat := 6000
end
section
/-! ROWS OF THE FLAT WORLD: names for values, heads of methods, copies, statics, texts -/
def lb_ {α β : Type} (x : α) (f : α → β) : β := f x
theorem lb_i {α β : Type} {x : α} {f : α → Option β} {r : β} (h : lb_ x f = some r) : ∃ y, y = x ∧ f y = some r := ⟨x, rfl, h⟩
def mt_ {α β : Type} (o : Option α) (A : β) (f : α → β) : β := match o with
  | none => A
  | some a => f a
theorem mt_n {α β : Type} {A r : β} {f : α → β} (h : mt_ none A f = r) : A = r := h
theorem mt_s {α β : Type} {a : α} {A r : β} {f : α → β} (h : mt_ (some a) A f = r) : f a = r := h
def i2c_ (x : Int32) : Int32 := (x.toUInt32 % 65536).toInt32
def aK (k : Nat) (w : Wd) (a : Nat) (i : Int32) : Bool := decide (wK w a = k) && ib i (wL w a)
theorem aK_i {k : Nat} {w : Wd} {a : Nat} {i : Int32} (h : aK k w a i = true) : wK w a = k ∧ ib i (wL w a) = true := by
  simp only [aK, Bool.and_eq_true, decide_eq_true_eq] at h
  exact h
theorem kd_I {w w1 : Wd} {a j b c : Nat} {v : Int32} (e : w1 = sI w a j v) (h : wK w b = c) : wK w1 b = c := by subst e; exact h
theorem kd_R {w w1 : Wd} {a j b c : Nat} {v : Option Nat} (e : w1 = sR w a j v) (h : wK w b = c) : wK w1 b = c := by subst e; exact h
theorem kd_N {w w1 : Wd} {a k n : Nat} (ea : a = wN w) (e : w1 = nC w k n) : wK w1 a = k := by subst e; subst ea; exact va_up_self _ _ _
theorem bz_n {x : Int32} (h : x = 0 ∨ x = 1) : narrow .boolean (.int x) = .int x := by rcases h with e | e <;> subst e <;> decide +kernel
theorem bz_ite {c : Prop} [Decidable c] {a b : Int32} (h1 : a = 0 ∨ a = 1) (h2 : b = 0 ∨ b = 1) : (if c then a else b) = 0 ∨ (if c then a else b) = 1 := by split <;> assumption
theorem nt_ {x v : Int32} (h : ¬ x = v) : x.toInt ≠ v.toInt := fun q => h (Int32.toInt_inj.mp q)
def Hd_ (t : Ct) (V : Vt) (cc : ByteArray) (nL : Nat) (own : String) (rm : Room) (ret : Option FieldType) (nm : String) : Prop := Cx t V cc nL own ∧ tR t = rm ∧ (tMe t).sig.returnType = ret ∧ (tMe t).name = nm
/-- what a copy of n places may be, and what it makes -/
def cp_ok (w : Wd) (a : Nat) (sp : Int32) (b : Nat) (dp n : Int32) : Bool := decide (wK w a = 11) && (decide (wK w b = 11) && (decide (¬ sp < 0) && (decide (¬ dp < 0) && (decide (¬ n < 0) && (decide (nx sp + nx n ≤ wL w a) && decide (nx dp + nx n ≤ wL w b))))))
def cp_W (w : Wd) (a : Nat) (sp : Int32) (b : Nat) (dp n : Int32) : Wd := sF w b (va_cpy (wI w a) (wI w b) (nx sp) (nx dp) (nx n))
theorem kd_C {w w1 : Wd} {a b x c : Nat} {sp dp n : Int32} (e : w1 = cp_W w a sp b dp n) (h : wK w x = c) : wK w1 x = c := by subst e; exact h
theorem in_by {ws big : List Cond} (ix : List Nat) (h : ws.map some = ix.map (fun i => big[i]?)) (hg : ∀ w ∈ ws, goodWord w = true) : ∀ w ∈ ws, w ∈ big.filter goodWord := by
  intro w hw
  refine List.mem_filter.mpr ⟨?_, hg w hw⟩
  have h1 : some w ∈ ix.map (fun i => big[i]?) := by rw [← h]; exact List.mem_map_of_mem hw
  obtain ⟨i, -, e⟩ := List.mem_map.mp h1
  exact List.mem_of_getElem? e
section GR3
variable {t : Ct} {V : Vt} {cc : ByteArray} {nL ce sl : Nat} {own : String} {Q : State → Prop} {pc : Nat} {lv : List (Nat × Value)} {st : List Value} {w : Wd}
theorem g_as {lv' : List (Nat × Value)} {st' : List Value} (e1 : lv = lv') (e2 : st = st') (k : Gd t V nL ce sl Q pc lv' st' w) : Gd t V nL ce sl Q pc lv st w := by subst e1; subst e2; exact k
theorem g_w {w1 : Wd} (e : w1 = w) (k : Gd t V nL ce sl Q pc lv st w1) : Gd t V nL ce sl Q pc lv st w := e ▸ k
theorem g_top {x y : Int32} (e : x = y) (k : Gd t V nL ce sl Q pc lv (.int x :: st) w) : Gd t V nL ce sl Q pc lv (.int y :: st) w := e ▸ k
theorem g_topl {x y : Int64} (e : x = y) (k : Gd t V nL ce sl Q pc lv (.long x :: st) w) : Gd t V nL ce sl Q pc lv (.long y :: st) w := e ▸ k
theorem g_topr {x y : Nat} (e : x = y) (k : Gd t V nL ce sl Q pc lv (rf V x :: st) w) : Gd t V nL ce sl Q pc lv (rf V y :: st) w := e ▸ k
theorem g_iald (X : Cx t V cc nL own) {a : Nat} {i : Int32} (h : aK 11 w a i = true) (d : decode cc pc = .ok (.iaload, 1)) (kk : Gd t V nL ce sl Q (pc + 1) lv (.int (wI w a (nx i)) :: st) w) : Gd t V nL ce sl Q pc lv (.int i :: rf V a :: st) w := g_iaload X (aK_i h).1 (aK_i h).2 d kk
theorem g_cald (X : Cx t V cc nL own) {a : Nat} {i : Int32} (h : aK 10 w a i = true) (d : decode cc pc = .ok (.caload, 1)) (kk : Gd t V nL ce sl Q (pc + 1) lv (.int (wI w a (nx i)) :: st) w) : Gd t V nL ce sl Q pc lv (.int i :: rf V a :: st) w := g_caload X (aK_i h).1 (aK_i h).2 d kk
theorem g_bald (X : Cx t V cc nL own) {a : Nat} {i : Int32} (h : aK 12 w a i = true) (d : decode cc pc = .ok (.baload, 1)) (kk : Gd t V nL ce sl Q (pc + 1) lv (.int (wI w a (nx i)) :: st) w) : Gd t V nL ce sl Q pc lv (.int i :: rf V a :: st) w := g_baload X (aK_i h).1 (aK_i h).2 d kk
theorem g_aald (X : Cx t V cc nL own) {a b k : Nat} {C : String} {i : Int32} (h : aK k w a i = true) (hk1 : ¬ k < 13) (hk2 : k < 17) (ht : (tyl V)[k - 10]? = some (V.2.2.1 k, .object C)) (hr : wR w a (nx i) = some b) (d : decode cc pc = .ok (.aaload, 1)) (kk : Gd t V nL ce sl Q (pc + 1) lv (rf V b :: st) w) : Gd t V nL ce sl Q pc lv (.int i :: rf V a :: st) w := g_aaload X (aK_i h).1 hk1 hk2 ht (aK_i h).2 hr d kk
theorem g_iast (X : Cx t V cc nL own) {a : Nat} {i x : Int32} (h : aK 11 w a i = true) (d : decode cc pc = .ok (.iastore, 1)) (kk : Gd t V nL ce sl Q (pc + 1) lv st (sI w a (nx i) x)) : Gd t V nL ce sl Q pc lv (.int x :: .int i :: rf V a :: st) w := g_iastore X (aK_i h).1 (aK_i h).2 d kk
theorem g_bast (X : Cx t V cc nL own) {a : Nat} {i x : Int32} (h : aK 12 w a i = true) (hx : narrow .boolean (.int x) = .int x) (d : decode cc pc = .ok (.bastore, 1)) (kk : Gd t V nL ce sl Q (pc + 1) lv st (sI w a (nx i) x)) : Gd t V nL ce sl Q pc lv (.int x :: .int i :: rf V a :: st) w := g_bastore X (aK_i h).1 (aK_i h).2 hx d kk
theorem g_cast (X : Cx t V cc nL own) {a : Nat} {i x : Int32} (h : aK 10 w a i = true) (hx : narrow .char (.int x) = .int x) (d : decode cc pc = .ok (.castore, 1)) (kk : Gd t V nL ce sl Q (pc + 1) lv st (sI w a (nx i) x)) : Gd t V nL ce sl Q pc lv (.int x :: .int i :: rf V a :: st) w := g_castore X (aK_i h).1 (aK_i h).2 hx d kk
theorem g_aast (X : Cx t V cc nL own) {a b k ci : Nat} {C : String} {T : u_T} {N : Nat} {ty : Nat → FieldType} {i : Int32} (F : Fc ci C T N ty) (hb : wK w b = ci) (h : aK k w a i = true) (hk1 : ¬ k < 13) (hk2 : k < 17) (ht : (tyl V)[k - 10]? = some (V.2.2.1 k, .object C)) (d : decode cc pc = .ok (.aastore, 1)) (kk : Gd t V nL ce sl Q (pc + 1) lv st (sR w a (nx i) (some b))) : Gd t V nL ce sl Q pc lv (rf V b :: .int i :: rf V a :: st) w := g_aastore X F hb (aK_i h).1 hk1 hk2 ht (aK_i h).2 d kk
theorem g_i2b (X : Cx t V cc nL own) {x : Int32} (d : decode cc pc = .ok (.i2b, 1)) (k : Gd t V nL ce sl Q (pc + 1) lv (.int x.toInt8.toInt32 :: st) w) : Gd t V nL ce sl Q pc lv (.int x :: st) w :=
  fun H locs ls h1 h2 h3 => lv_i2b X.1 X.2.1 d rfl (k H locs ls h1 h2 h3)
theorem g_aload_nS (X : Cx t V cc nL own) {k : Fin 4} {x : Nat} (n : Nat) (hi : lv[n]? = some ((k : Nat), .ref x)) (d : decode cc pc = .ok (.aload_n k, 1)) (kk : Gd t V nL ce sl Q (pc + 1) lv (.ref x :: st) w) : Gd t V nL ce sl Q pc lv st w :=
  fun H locs ls h1 h2 h3 => lv_aload_n X.1 X.2.1 d rfl (lv_at h3 n hi) (kk H locs ls h1 h2 h3)
theorem g_astore_nS (X : Cx t V cc nL own) {k : Fin 4} {x : Nat} {lv' : List (Nat × Value)} (d : decode cc pc = .ok (.astore_n k, 1)) (hn : (k : Nat) < nL) (hl : ((k : Nat), Value.ref x) :: lv.filter (fun q => !(q.1 == (k : Nat)) && !(q.1 + 1 == (k : Nat) && q.2.category == 2)) = lv') (kk : Gd t V nL ce sl Q (pc + 1) lv' st w) : Gd t V nL ce sl Q pc lv (.ref x :: st) w :=
  fun H locs ls h1 h2 h3 => lv_astore_n X.1 X.2.1 d rfl h3 hn hl (fun ls' h3' => kk H locs ls' h1 h2 h3')
/-! texts -/
theorem g_ldcS {i : Nat} (X : Cx t V cc nL RX6) (j : Nat) (hj : j < 6) (d : decode cc pc = .ok (.ldc i, 2)) (hi : stI j = i) (kk : Gd t V nL ce sl Q (pc + 2) lv (.ref (V.2.2.2 (10 + j)) :: st) w) : Gd t V nL ce sl Q pc lv st w := by
  subst hi
  exact fun H locs ls h1 h2 h3 => va_ldcS X.1 X.2.1 X.2.2.2.1 (X.2.2.2.2.2.2.2.2.2.1 j hj) d (kk H locs ls h1 h2 h3)
theorem g_strV (X : Cx t V cc nL own) {i index : Nat} (hi : i < 6) (q : Cond.fieldLink own index "java/lang/String" "value" "[B" ∈ gw) (d : decode cc pc = .ok (.getfield index, 3)) (kk : Gd t V nL ce sl Q (pc + 3) lv (.ref (V.2.2.2 (20 + i)) :: st) w) : Gd t V nL ce sl Q pc lv (.ref (V.2.2.2 (10 + i)) :: st) w :=
  fun H locs ls h1 h2 h3 => vk_getf X.1 X.2.1 ((X.2.2.2.2.2.2.2.2.2.2.2.2.1).1 i hi).2.2.1 h2 X.2.2.2.1 (X.2.2.2.2.1 _ q) (fun _ h => h) d (kk H locs ls h1 h2 h3)
theorem g_strC (X : Cx t V cc nL own) {i index : Nat} (hi : i < 6) (q : Cond.fieldLink own index "java/lang/String" "coder" "B" ∈ gw) (d : decode cc pc = .ok (.getfield index, 3)) (kk : Gd t V nL ce sl Q (pc + 3) lv (.int 0 :: st) w) : Gd t V nL ce sl Q pc lv (.ref (V.2.2.2 (10 + i)) :: st) w :=
  fun H locs ls h1 h2 h3 => vk_getf X.1 X.2.1 ((X.2.2.2.2.2.2.2.2.2.2.2.2.1).1 i hi).2.1 h2 X.2.2.2.1 (X.2.2.2.2.1 _ q) (fun _ h => h) d (kk H locs ls h1 h2 h3)
theorem g_alenS (X : Cx t V cc nL own) {i : Nat} (hi : i < 6) (d : decode cc pc = .ok (.arraylength, 1)) (kk : Gd t V nL ce sl Q (pc + 1) lv (.int (nI (stN.getD i 0)) :: st) w) : Gd t V nL ce sl Q pc lv (.ref (V.2.2.2 (20 + i)) :: st) w :=
  fun H locs ls h1 h2 h3 => va_tlen X.1 X.2.1 ((X.2.2.2.2.2.2.2.2.2.2.2.2.1).1 i hi).2.2.2 h2 rfl d (kk H locs ls h1 h2 h3)
theorem g_baloadS (X : Cx t V cc nL own) {i : Nat} {k : Int32} (hi : i < 6) (hk : ib k (stN.getD i 0) = true) (d : decode cc pc = .ok (.baload, 1)) (kk : Gd t V nL ce sl Q (pc + 1) lv (.int ((stB.getD i []).getD (nx k) 0) :: st) w) : Gd t V nL ce sl Q pc lv (.int k :: .ref (V.2.2.2 (20 + i)) :: st) w :=
  fun H locs ls h1 h2 h3 => va_tb X.1 X.2.1 ((X.2.2.2.2.2.2.2.2.2.2.2.2.1).1 i hi).2.2.2 h2 (ib_in hk) rfl d (kk H locs ls h1 h2 h3)
theorem g_getsC (X : Cx t V cc nL own) {index : Nat} (q : Cond.fieldLink own index "java/lang/String" "COMPACT_STRINGS" "Z" ∈ gw) (d : decode cc pc = .ok (.getstatic index, 3)) (kk : Gd t V nL ce sl Q (pc + 3) lv (.int 1 :: st) w) : Gd t V nL ce sl Q pc lv st w :=
  fun H locs ls h1 h2 h3 => va_gets X.1 X.2.1 X.2.2.2.2.2.2.2.2.2.2.2.2.2.1 h2 X.2.2.2.1 (X.2.2.2.2.1 _ q) (fun _ h => h) d (kk H locs ls h1 h2 h3)
theorem g_getsQ (X : Cx t V cc nL own) {index : Nat} (q : Cond.fieldLink own index "jdk/internal/util/Preconditions" "SIOOBE_FORMATTER" "Ljava/util/function/BiFunction;" ∈ gw) (d : decode cc pc = .ok (.getstatic index, 3)) (kk : ∀ z : Value, Gd t V nL ce sl Q (pc + 3) lv (z :: st) w) : Gd t V nL ce sl Q pc lv st w := by
  intro H locs ls h1 h2 h3
  rcases X.2.2.2.2.2.2.2.2.2.2.2.2.2.2 with h | ⟨a, h⟩
  · exact va_gets X.1 X.2.1 h h2 X.2.2.2.1 (X.2.2.2.2.1 _ q) (fun _ h => h) d (kk _ H locs ls h1 h2 h3)
  · exact va_gets X.1 X.2.1 h h2 X.2.2.2.1 (X.2.2.2.2.1 _ q) (fun _ h => h) d (kk _ H locs ls h1 h2 h3)
/-! the class's own statics -/
theorem g_gets1 (X : Cx t V cc nL own) {index : Nat} (q : Cond.fieldLink own index "BenchSeats" "RULE_TOPS" "[I" ∈ gw) (d : decode cc pc = .ok (.getstatic index, 3)) (kk : Gd t V nL ce sl Q (pc + 3) lv (.ref (V.2.2.2 1) :: st) w) : Gd t V nL ce sl Q pc lv st w :=
  fun H locs ls h1 h2 h3 => va_gets X.1 X.2.1 X.2.2.2.2.2.2.2.2.2.2.2.1.1 h2 X.2.2.2.1 (X.2.2.2.2.1 _ q) (fun _ h => h) d (kk H locs ls h1 h2 h3)
theorem g_getsN0 (X : Cx t V cc nL own) {index : Nat} (q : Cond.fieldLinkNest own index RX8 "KINDS_OF" "[I" RX8 ∈ nwL) (d : decode cc pc = .ok (.getstatic index, 3)) (kk : Gd t V nL ce sl Q (pc + 3) lv (.ref (V.2.2.2 0) :: st) w) : Gd t V nL ce sl Q pc lv st w :=
  fun H locs ls h1 h2 h3 => va_getsN X.1 X.2.1 X.2.2.2.2.2.2.2.2.2.2.1.1 h2 X.2.2.2.1 (va_Nw.use (by rfl) (X.2.2.2.2.2.2.2.1 _ q)) (fun _ h => h) d (kk H locs ls h1 h2 h3)
theorem g_ialoadS0 (X : Cx t V cc nL own) {k : Int32} (hk : ib k 6 = true) (d : decode cc pc = .ok (.iaload, 1)) (kk : Gd t V nL ce sl Q (pc + 1) lv (.int (kdL.getD (nx k) 0) :: st) w) : Gd t V nL ce sl Q pc lv (.int k :: .ref (V.2.2.2 0) :: st) w :=
  fun H locs ls h1 h2 h3 => va_ti X.1 X.2.1 X.2.2.2.2.2.2.2.2.2.2.1.2 h2 (ib_in hk) rfl d (kk H locs ls h1 h2 h3)
theorem g_ialoadS1 (X : Cx t V cc nL own) {k : Int32} (hk : ib k 4 = true) (d : decode cc pc = .ok (.iaload, 1)) (kk : Gd t V nL ce sl Q (pc + 1) lv (.int (rtL.getD (nx k) 0) :: st) w) : Gd t V nL ce sl Q pc lv (.int k :: .ref (V.2.2.2 1) :: st) w :=
  fun H locs ls h1 h2 h3 => va_ti X.1 X.2.1 X.2.2.2.2.2.2.2.2.2.2.2.1.2 h2 (ib_in hk) rfl d (kk H locs ls h1 h2 h3)
theorem g_callT {y : MethodName} {bytes : ByteArray} {maxL mc ms n index i : Nat} {ret : Option FieldType} {rm : Room} {As rest st' : List Value} {ov : Option Value} {w' : Wd} (X : Cx t V cc nL own) (hi : i < 6) (hy : y.cls = "java/lang/String") (P : Mk y bytes maxL ret n) (q1 : Cond.instanceMethod y ∈ gw) (q2 : Cond.selects y.cls y y ∈ gw) (q : Cond.methodLink own index y ∈ gw) (M : MetW t.2.1 V y bytes maxL ret rm w (.ref (V.2.2.2 (10 + i)) :: As) ov w' mc ms) (hrc : rm.cells = mc) (hrs : rm.slots = ms) (hR : rm.frames + 1 ≤ (tR t).frames ∧ 8 + (maxL + 11) + rm.locals ≤ (tR t).locals) (hn : As.length = n) (hst : st = As.reverse ++ .ref (V.2.2.2 (10 + i)) :: rest) (hW : 0 + (rest.map fun v => v.category).sum ≤ 8) (hf : ce + mc ≤ (tR t).cells ∧ sl + ms ≤ (tR t).slots) (d : decode cc pc = .ok (.invokevirtual index, 3)) (hv : ov.toList ++ rest = st') (kk : Gd t V nL (ce + mc) (sl + ms) Q (pc + 3) lv st' w') : Gd t V nL ce sl Q pc lv st w := by
  refine g_run (a := #[]) (fun H locs ls h1 h2 h3 => ?_) hv kk
  exact va_runV (C := y.cls) (As := As) (rest := rest) (b := V.2.2.2 (10 + i)) (Ts := gw) ⟨X.1, X.2.1, X.2.2.1, X.2.2.2.1, X.2.2.2.2.1⟩ M ⟨g_callB X P q hrc hrs hR, X.2.2.2.2.1 _ q1, X.2.2.2.2.1 _ q2⟩ ⟨PcM.blind V w _, by rw [hy]; exact vk_recv (i := i) (adK := fun i => V.2.2.2 (10 + i)) X.2.2.2.2.2.2.2.2.2.2.2.2.1 hi h2, fun U hU hW => ⟨rfl, X.2.2.2.2.2.2.go h2 hU hW, by rw [hU]; exact h1⟩⟩ rfl hn h3.1 hst hW d hf
theorem g_nret (X : Cx t V cc nL own) {mc ms : Nat} {x r : Int32} {w' : Wd} {ty : FieldType} (hr : (tMe t).sig.returnType = some ty) (hx : narrow ty (.int x) = .int x) (hc : ce ≤ mc) (hs : sl ≤ ms) (e1 : x = r) (e2 : w = w') (d : decode cc pc = .ok (.ireturn, 1)) : Gd t V nL ce sl (Qe t V (some (.int r)) w' mc ms) pc lv [.int x] w := by
  subst e1; subst e2
  refine g_widen hc hs ?_
  intro H locs ls h1 h2 h3
  exact W.zret X.1 X.2.1 hr hx (fun t ht hW => ⟨rfl, by rw [ht]; exact h1, h2.F ht⟩) h2.2.2 d X.2.2.2.2.2.1
/-! Math -/
theorem g_mmin (X : Cx t V cc nL own) {index : Nat} (q : Cond.methodLink own index Lib.Math.min.name ∈ gw) (q1 : Cond.static Lib.Math.min.name ∈ gw) (q2 : Cond.initialized "java/lang/Math" ∈ gw) (q3 : Cond.code Lib.Math.min.name Lib.Math.min.code 2 (some .int) ∈ gw) (hf : 1 ≤ (tR t).frames) (hlo : (st.map fun v => v.category).sum + 13 ≤ (tR t).locals) (hc : ce ≤ (tR t).cells ∧ sl ≤ (tR t).slots) {x y : Int32} (d : decode cc pc = .ok (.invokestatic index, 3)) (kk : Gd t V nL ce sl Q (pc + 3) lv (.int (if y < x then y else x) :: st) w) : Gd t V nL ce sl Q pc lv (.int y :: .int x :: st) w :=
  fun H locs ls h1 h2 h3 => va_mmin X.1 X.2.1 (by rw [X.2.2.1]; exact h3.1.symm) X.2.2.2.1 (X.2.2.2.2.1 _ q) (X.2.2.2.2.1 _ q1) (X.2.2.2.2.1 _ q2) (X.2.2.2.2.1 _ q3) hf hlo hc.1 hc.2 d (kk H locs ls h1 h2 h3)
theorem g_mmax (X : Cx t V cc nL own) {index : Nat} (q : Cond.methodLink own index Lib.Math.max.name ∈ gw) (q1 : Cond.static Lib.Math.max.name ∈ gw) (q2 : Cond.initialized "java/lang/Math" ∈ gw) (q3 : Cond.code Lib.Math.max.name Lib.Math.max.code 2 (some .int) ∈ gw) (hf : 1 ≤ (tR t).frames) (hlo : (st.map fun v => v.category).sum + 13 ≤ (tR t).locals) (hc : ce ≤ (tR t).cells ∧ sl ≤ (tR t).slots) {x y : Int32} (d : decode cc pc = .ok (.invokestatic index, 3)) (kk : Gd t V nL ce sl Q (pc + 3) lv (.int (if x < y then y else x) :: st) w) : Gd t V nL ce sl Q pc lv (.int y :: .int x :: st) w :=
  fun H locs ls h1 h2 h3 => va_mmax X.1 X.2.1 (by rw [X.2.2.1]; exact h3.1.symm) X.2.2.2.1 (X.2.2.2.2.1 _ q) (X.2.2.2.2.1 _ q1) (X.2.2.2.2.1 _ q2) (X.2.2.2.2.1 _ q3) hf hlo hc.1 hc.2 d (kk H locs ls h1 h2 h3)
/-! an array of ints whose length is no written number -/
theorem g_newarrB (X : Cx t V cc nL own) (ra : ∀ (U : State) (c : ClassId), va_RA U c .int → U.vm.findClass ("[" ++ FieldType.int.toString) = some c) (q : Cond.arrayClass .int ∈ gw) {n : Int32} (hi : ib n 100 = true) (hc : ce + 1 ≤ (tR t).cells) (hs : sl + 100 ≤ (tR t).slots) (d : decode cc pc = .ok (.newarray .int, 2)) (kk : Gd t V nL (ce + 1) (sl + 100) Q (pc + 2) lv (rf V (wN w) :: st) (nC w 11 (nx n))) : Gd t V nL ce sl Q pc lv (.int n :: st) w := by
  have hin := ib_in hi
  have h1 : n.toNatClampNeg < 100 := Nat.not_le.mp fun q => hin (Or.inr q)
  have hcb : componentBytes .int = 4 := by decide +kernel
  refine g_newarr X (atype := .int) (k := 11) (fty := .int) rfl (by decide) (by decide) rfl ra rfl q (n := n) (N := nx n) (fun h => hin (Or.inl h)) rfl (by rw [hcb]; show n.toNatClampNeg * 4 ≤ _; omega) hc (by show sl + n.toNatClampNeg ≤ _; omega) d ?_
  exact g_widen (Nat.le_refl _) (by show sl + n.toNatClampNeg ≤ _; omega) kk
end GR3
section GR4
variable {t : Ct} {V : Vt} {cc : ByteArray} {nL ce sl : Nat} {own : String} {Q : State → Prop} {pc : Nat} {lv : List (Nat × Value)} {st : List Value} {w : Wd}
theorem nn_ {z : Int32} (hz : ¬ z < 0) : z.toInt = (z.toNatClampNeg : Int) := by
  have hz0 : (0 : Int) ≤ z.toInt := by
    have := Int32.not_lt.mp hz
    simpa using Int32.le_iff_toInt_le.mp this
  show z.toInt = ((z.toInt.toNat : Nat) : Int)
  omega
/-- a copy of n places of one row of ints into another, or the same -/
theorem g_copy (X : Cx t V cc nL own) {a b index : Nat} {sp dp n : Int32} (hk : cp_ok w a sp b dp n = true) (q : Cond.methodLink own index arraycopyName ∈ gw) (q1 : Cond.native arraycopyName ∈ gw) (q2 : Cond.static arraycopyName ∈ gw) (q3 : Cond.initialized "java/lang/System" ∈ gw) (hf : 1 ≤ (tR t).frames) (hlo : (st.map fun v => v.category).sum + (nativeFrameWords "java/lang/System" "arraycopy" 5 + 11) ≤ (tR t).locals) (d : decode cc pc = .ok (.invokestatic index, 3)) (kk : Gd t V nL ce sl Q (pc + 3) lv st (cp_W w a sp b dp n)) : Gd t V nL ce sl Q pc lv (.int n :: .int dp :: rf V b :: .int sp :: rf V a :: st) w := by
  simp only [cp_ok, Bool.and_eq_true, decide_eq_true_eq] at hk
  obtain ⟨ka, kb, g1, g2, g3, g4, g5⟩ := hk
  have g4' : sp.toNatClampNeg + n.toNatClampNeg ≤ wL w a := g4
  have g5' : dp.toNatClampNeg + n.toNatClampNeg ≤ wL w b := g5
  intro H locs ls h1 h2 h3 T hT XX
  have hts := X.2.2.2.2.1
  have hK := X.2.2.2.2.2.2.1
  have hc0 : H[V.1 + a]? = some (vp_cell (V.2.2.1 11) (wL w a, .inl (wI w a))) := h1.int ka (by decide) (by decide) 0 _ rfl
  have hc1 : H[V.1 + b]? = some (vp_cell (V.2.2.1 11) (wL w b, .inl (wI w b))) := h1.int kb (by decide) (by decide) 0 _ rfl
  obtain ⟨-, k0, hk0, cm0, hkk0⟩ := (hK.2 1 _ rfl).1 (wL w a) (fun j => .int (wI w a j))
  obtain ⟨-, k1, hk1, cm1, hkk1⟩ := (hK.2 1 _ rfl).1 (wL w b) (fun j => .int (wI w b j))
  obtain ⟨vm', X', step⟩ := XX.arraycopy X.1 X.2.2.2.1 (hts _ q) (hts _ q1) (hts _ q2) (hts _ q3) (src := V.1 + a) (dst := V.1 + b) (cs := vp_cell (V.2.2.1 11) (wL w a, .inl (wI w a))) (cd := vp_cell (V.2.2.1 11) (wL w b, .inl (wI w b))) (srcPos := sp) (destPos := dp) (n := n) (by rw [hT]; exact hc0) (by rw [hT]; exact hc1)
    (fun _ h => by cases h) (fun _ h => by cases h) (fun h => by cases h) (fun h => by cases h) hk0 hk1 hkk0 hkk1 (by simp [refKind]) g1 g2 g3
    (by rw [nn_ g1, nn_ g3]; show ¬ _ > ((arrV (V.2.2.1 11) (wL w a) (fun j => .int (wI w a j))).slots.size : Int); rw [arrV_size]; omega)
    (by rw [nn_ g2, nn_ g3]; show ¬ _ > ((arrV (V.2.2.1 11) (wL w b) (fun j => .int (wI w b j))).slots.size : Int); rw [arrV_size]; omega)
    (fun vm₁ _ i hi => by
      have e : (vp_cell (V.2.2.1 11) (wL w a, .inl (wI w a))).slots.getD (sp.toNatClampNeg + i) .null = .int (wI w a (sp.toNatClampNeg + i)) := by
        show (arrV (V.2.2.1 11) (wL w a) (fun j => .int (wI w a j))).slots.getD _ _ = _
        rw [Array.getD_eq_getD_getElem?, arrV_read _ _ (by omega)]
        rfl
      refine ⟨?_, ?_⟩
      · rw [e]; rfl
      · rw [e]; exact trivial)
    (g := F0 (tM t) pc ls (.int n :: .int dp :: rf V b :: .int sp :: rf V a :: st)) rfl (by rw [X.2.2.1]; exact h3.1) (rest := st) rfl (by rw [X.2.1]; exact d) hf (by show 2 * 0 + _ + _ ≤ (tR t).locals; omega)
  have e1 : copied (vp_cell (V.2.2.1 11) (wL w a, .inl (wI w a))) (vp_cell (V.2.2.1 11) (wL w b, .inl (wI w b))) sp dp n = vp_cell (V.2.2.1 11) (wL w b, .inl (va_cpy (wI w a) (wI w b) (nx sp) (nx dp) (nx n))) := va_copied (fun z => .int z) (V.2.2.1 11) (V.2.2.1 11) (wI w a) (wI w b) g4
  rw [e1] at X' step
  have hl : V.1 + b < H.size := (Array.getElem?_eq_some_iff.mp hc1).1
  have hlb := h1.lt kb (by decide)
  generalize hCe : vp_cell (V.2.2.1 11) (wL w b, .inl (va_cpy (wI w a) (wI w b) (nx sp) (nx dp) (nx n))) = Ce at X' step
  have hheap : ((T.setVm vm').setCell (V.1 + b) Ce).heap = H.setIfInBounds (V.1 + b) Ce := by rw [← hT]; rfl
  have oq : ∀ q : Nat, q ≠ V.1 + b → (H.setIfInBounds (V.1 + b) Ce)[q]? = H[q]? := fun q hq => by simp [Array.getElem?_setIfInBounds, Ne.symm hq]
  have z : (H.setIfInBounds (V.1 + b) Ce).size = H.size := by simp
  obtain ⟨t', a1, b1⟩ := kk _ _ ls (h1.set (w' := cp_W w a sp b dp n) hlb rfl (fun _ => rfl) (fun c hc => enc_sF hc) z oq (by
      rw [show cp_W w a sp b dp n = sF w b (va_cpy (wI w a) (wI w b) (nx sp) (nx dp) (nx n)) from rfl, enc_sIa kb (by decide) (by decide)]
      show (H.setIfInBounds (V.1 + b) Ce)[V.1 + b]? = some (vp_cell _ _)
      rw [hCe]
      simp [Array.getElem?_setIfInBounds, hl])) ⟨by rw [z]; exact h2.1, fun q g1 g2 => by
      rw [oq q (fun e => g2 (by rw [e]; exact Nat.le_add_right _ _))]
      exact h2.2.1 q g1 g2, fun q hq => by
      rcases List.mem_append.mp hq with h | h
      · exact h2.2.2 q h
      · obtain ⟨z, -, hz⟩ := List.mem_map.mp h
        rw [← hz]
        exact Nat.le_add_right _ _⟩ h3 _ hheap X'
  exact ⟨t', step t' a1, b1⟩
end GR4
end
