section
-- ===== PART A: goes FIRST, ahead of the names: the tables' words, and 'selects' of the private methods out of them =====
/-- a private method of a class that the tables say can be made, by its rows of tables_1 -/
def lw_okq (q : MethodName × Nat) : Prop := (q.1.cls ≠ "java/lang/invoke/MethodHandle" ∧ q.1.cls ≠ "java/lang/invoke/VarHandle") ∧ Cond.instantiable q.1.cls q.2 ∈ tables_1 ∧ Cond.privateMethod q.1 ∈ tables_1 ∧ Cond.instanceMethod q.1 ∈ tables_1
theorem lw_p0 : lw_okq (⟨"SungEvidence", "forgetDeeds", "()V"⟩, 17) := ⟨⟨by decide +kernel, by decide +kernel⟩, List.mem_of_getElem? (i := 23) (by decide +kernel), List.mem_of_getElem? (i := 453) (by decide +kernel), List.mem_of_getElem? (i := 454) (by decide +kernel)⟩
theorem lw_p1 : lw_okq (⟨"SungEvidence", "setOfWitness", "(III)Z"⟩, 17) := ⟨⟨by decide +kernel, by decide +kernel⟩, List.mem_of_getElem? (i := 23) (by decide +kernel), List.mem_of_getElem? (i := 486) (by decide +kernel), List.mem_of_getElem? (i := 487) (by decide +kernel)⟩
theorem lw_p2 : lw_okq (⟨"SungEvidence", "setOfBench", "(II)Z"⟩, 17) := ⟨⟨by decide +kernel, by decide +kernel⟩, List.mem_of_getElem? (i := 23) (by decide +kernel), List.mem_of_getElem? (i := 490) (by decide +kernel), List.mem_of_getElem? (i := 491) (by decide +kernel)⟩
theorem lw_p3 : lw_okq (⟨"SungEvidence$Tape", "addToken", "(I)V"⟩, 9) := ⟨⟨by decide +kernel, by decide +kernel⟩, List.mem_of_getElem? (i := 31) (by decide +kernel), List.mem_of_getElem? (i := 529) (by decide +kernel), List.mem_of_getElem? (i := 530) (by decide +kernel)⟩
theorem lw_p4 : lw_okq (⟨"SungEvidence$Tape", "kindOf", "(ILjava/lang/String;)I"⟩, 9) := ⟨⟨by decide +kernel, by decide +kernel⟩, List.mem_of_getElem? (i := 31) (by decide +kernel), List.mem_of_getElem? (i := 533) (by decide +kernel), List.mem_of_getElem? (i := 534) (by decide +kernel)⟩
theorem lw_p5 : lw_okq (⟨"SungEvidence$Tape", "wordOf", "(ILjava/lang/String;)I"⟩, 9) := ⟨⟨by decide +kernel, by decide +kernel⟩, List.mem_of_getElem? (i := 31) (by decide +kernel), List.mem_of_getElem? (i := 537) (by decide +kernel), List.mem_of_getElem? (i := 538) (by decide +kernel)⟩
theorem lw_p6 : lw_okq (⟨"SungEvidence$Tape", "isSpelled", "(Ljava/lang/String;III)Z"⟩, 9) := ⟨⟨by decide +kernel, by decide +kernel⟩, List.mem_of_getElem? (i := 31) (by decide +kernel), List.mem_of_getElem? (i := 589) (by decide +kernel), List.mem_of_getElem? (i := 590) (by decide +kernel)⟩
theorem lw_p7 : lw_okq (⟨"SungEvidence$Motives", "readLine", "(LSungEvidence$Tape;)Z"⟩, 3) := ⟨⟨by decide +kernel, by decide +kernel⟩, List.mem_of_getElem? (i := 75) (by decide +kernel), List.mem_of_getElem? (i := 601) (by decide +kernel), List.mem_of_getElem? (i := 602) (by decide +kernel)⟩
theorem lw_p8 : lw_okq (⟨"SungEvidence$Motives", "readSteps", "(LSungEvidence$Tape;I)Z"⟩, 3) := ⟨⟨by decide +kernel, by decide +kernel⟩, List.mem_of_getElem? (i := 75) (by decide +kernel), List.mem_of_getElem? (i := 628) (by decide +kernel), List.mem_of_getElem? (i := 629) (by decide +kernel)⟩
theorem lw_p9 : lw_okq (⟨"SungEvidence", "adoptMotives", "()I"⟩, 17) := ⟨⟨by decide +kernel, by decide +kernel⟩, List.mem_of_getElem? (i := 23) (by decide +kernel), List.mem_of_getElem? (i := 635) (by decide +kernel), List.mem_of_getElem? (i := 636) (by decide +kernel)⟩
theorem lw_p10 : lw_okq (⟨"SungEvidence$LawReader", "readSum", "()Z"⟩, 2) := ⟨⟨by decide +kernel, by decide +kernel⟩, List.mem_of_getElem? (i := 383) (by decide +kernel), List.mem_of_getElem? (i := 662) (by decide +kernel), List.mem_of_getElem? (i := 663) (by decide +kernel)⟩
theorem lw_p11 : lw_okq (⟨"SungEvidence$LawReader", "readProduct", "()Z"⟩, 2) := ⟨⟨by decide +kernel, by decide +kernel⟩, List.mem_of_getElem? (i := 383) (by decide +kernel), List.mem_of_getElem? (i := 666) (by decide +kernel), List.mem_of_getElem? (i := 667) (by decide +kernel)⟩
theorem lw_p12 : lw_okq (⟨"SungEvidence$LawReader", "readUnit", "()Z"⟩, 2) := ⟨⟨by decide +kernel, by decide +kernel⟩, List.mem_of_getElem? (i := 383) (by decide +kernel), List.mem_of_getElem? (i := 670) (by decide +kernel), List.mem_of_getElem? (i := 671) (by decide +kernel)⟩
theorem lw_p13 : lw_okq (⟨"SungEvidence$LawReader", "readCondition", "(I)Z"⟩, 2) := ⟨⟨by decide +kernel, by decide +kernel⟩, List.mem_of_getElem? (i := 383) (by decide +kernel), List.mem_of_getElem? (i := 684) (by decide +kernel), List.mem_of_getElem? (i := 685) (by decide +kernel)⟩
theorem lw_p14 : lw_okq (⟨"SungEvidence$LawReader", "readTest", "(I)Z"⟩, 2) := ⟨⟨by decide +kernel, by decide +kernel⟩, List.mem_of_getElem? (i := 383) (by decide +kernel), List.mem_of_getElem? (i := 688) (by decide +kernel), List.mem_of_getElem? (i := 689) (by decide +kernel)⟩
theorem lw_p15 : lw_okq (⟨"SungEvidence", "adoptLaw", "()I"⟩, 17) := ⟨⟨by decide +kernel, by decide +kernel⟩, List.mem_of_getElem? (i := 23) (by decide +kernel), List.mem_of_getElem? (i := 700) (by decide +kernel), List.mem_of_getElem? (i := 701) (by decide +kernel)⟩
def lw_privs_1 : List (MethodName × Nat) := [(⟨"SungEvidence", "forgetDeeds", "()V"⟩, 17), (⟨"SungEvidence", "setOfWitness", "(III)Z"⟩, 17), (⟨"SungEvidence", "setOfBench", "(II)Z"⟩, 17), (⟨"SungEvidence$Tape", "addToken", "(I)V"⟩, 9), (⟨"SungEvidence$Tape", "kindOf", "(ILjava/lang/String;)I"⟩, 9), (⟨"SungEvidence$Tape", "wordOf", "(ILjava/lang/String;)I"⟩, 9), (⟨"SungEvidence$Tape", "isSpelled", "(Ljava/lang/String;III)Z"⟩, 9), (⟨"SungEvidence$Motives", "readLine", "(LSungEvidence$Tape;)Z"⟩, 3), (⟨"SungEvidence$Motives", "readSteps", "(LSungEvidence$Tape;I)Z"⟩, 3), (⟨"SungEvidence", "adoptMotives", "()I"⟩, 17), (⟨"SungEvidence$LawReader", "readSum", "()Z"⟩, 2), (⟨"SungEvidence$LawReader", "readProduct", "()Z"⟩, 2), (⟨"SungEvidence$LawReader", "readUnit", "()Z"⟩, 2), (⟨"SungEvidence$LawReader", "readCondition", "(I)Z"⟩, 2), (⟨"SungEvidence$LawReader", "readTest", "(I)Z"⟩, 2), (⟨"SungEvidence", "adoptLaw", "()I"⟩, 17)]
theorem lw_r1 : ∀ q ∈ lw_privs_1, lw_okq q := List.forall_mem_cons.mpr ⟨lw_p0, List.forall_mem_cons.mpr ⟨lw_p1, List.forall_mem_cons.mpr ⟨lw_p2, List.forall_mem_cons.mpr ⟨lw_p3, List.forall_mem_cons.mpr ⟨lw_p4, List.forall_mem_cons.mpr ⟨lw_p5, List.forall_mem_cons.mpr ⟨lw_p6, List.forall_mem_cons.mpr ⟨lw_p7, List.forall_mem_cons.mpr ⟨lw_p8, List.forall_mem_cons.mpr ⟨lw_p9, List.forall_mem_cons.mpr ⟨lw_p10, List.forall_mem_cons.mpr ⟨lw_p11, List.forall_mem_cons.mpr ⟨lw_p12, List.forall_mem_cons.mpr ⟨lw_p13, List.forall_mem_cons.mpr ⟨lw_p14, List.forall_mem_cons.mpr ⟨lw_p15, fun _ h => absurd h List.not_mem_nil⟩⟩⟩⟩⟩⟩⟩⟩⟩⟩⟩⟩⟩⟩⟩⟩
theorem lw_p16 : lw_okq (⟨"SungEvidence$Plan", "readEnd", "(LSungEvidence$Tape;)Z"⟩, 8) := ⟨⟨by decide +kernel, by decide +kernel⟩, List.mem_of_getElem? (i := 128) (by decide +kernel), List.mem_of_getElem? (i := 714) (by decide +kernel), List.mem_of_getElem? (i := 715) (by decide +kernel)⟩
theorem lw_p17 : lw_okq (⟨"SungEvidence$Plan", "readDeed", "(LSungEvidence$Tape;I)Z"⟩, 8) := ⟨⟨by decide +kernel, by decide +kernel⟩, List.mem_of_getElem? (i := 128) (by decide +kernel), List.mem_of_getElem? (i := 719) (by decide +kernel), List.mem_of_getElem? (i := 720) (by decide +kernel)⟩
theorem lw_p18 : lw_okq (⟨"SungEvidence$Plan", "readCall", "(LSungEvidence$Tape;I)Z"⟩, 8) := ⟨⟨by decide +kernel, by decide +kernel⟩, List.mem_of_getElem? (i := 128) (by decide +kernel), List.mem_of_getElem? (i := 723) (by decide +kernel), List.mem_of_getElem? (i := 724) (by decide +kernel)⟩
theorem lw_p19 : lw_okq (⟨"SungEvidence$Plan", "addDeed", "(IIII)V"⟩, 8) := ⟨⟨by decide +kernel, by decide +kernel⟩, List.mem_of_getElem? (i := 128) (by decide +kernel), List.mem_of_getElem? (i := 731) (by decide +kernel), List.mem_of_getElem? (i := 732) (by decide +kernel)⟩
theorem lw_p20 : lw_okq (⟨"SungEvidence$Plan", "readCross", "(LSungEvidence$Tape;I)Z"⟩, 8) := ⟨⟨by decide +kernel, by decide +kernel⟩, List.mem_of_getElem? (i := 128) (by decide +kernel), List.mem_of_getElem? (i := 735) (by decide +kernel), List.mem_of_getElem? (i := 736) (by decide +kernel)⟩
theorem lw_p21 : lw_okq (⟨"SungEvidence$Plan", "readAgain", "(LSungEvidence$Tape;)Z"⟩, 8) := ⟨⟨by decide +kernel, by decide +kernel⟩, List.mem_of_getElem? (i := 128) (by decide +kernel), List.mem_of_getElem? (i := 739) (by decide +kernel), List.mem_of_getElem? (i := 740) (by decide +kernel)⟩
theorem lw_p22 : lw_okq (⟨"SungEvidence$Plan", "closeAgain", "(LSungEvidence$Tape;)Z"⟩, 8) := ⟨⟨by decide +kernel, by decide +kernel⟩, List.mem_of_getElem? (i := 128) (by decide +kernel), List.mem_of_getElem? (i := 743) (by decide +kernel), List.mem_of_getElem? (i := 744) (by decide +kernel)⟩
theorem lw_p23 : lw_okq (⟨"SungEvidence$Plan", "copyDeed", "(II)V"⟩, 8) := ⟨⟨by decide +kernel, by decide +kernel⟩, List.mem_of_getElem? (i := 128) (by decide +kernel), List.mem_of_getElem? (i := 747) (by decide +kernel), List.mem_of_getElem? (i := 748) (by decide +kernel)⟩
theorem lw_p24 : lw_okq (⟨"SungEvidence", "adoptPlan", "()I"⟩, 17) := ⟨⟨by decide +kernel, by decide +kernel⟩, List.mem_of_getElem? (i := 23) (by decide +kernel), List.mem_of_getElem? (i := 752) (by decide +kernel), List.mem_of_getElem? (i := 753) (by decide +kernel)⟩
theorem lw_p25 : lw_okq (⟨"SungEvidence$Deeds", "barsOf", "(II)I"⟩, 3) := ⟨⟨by decide +kernel, by decide +kernel⟩, List.mem_of_getElem? (i := 310) (by decide +kernel), List.mem_of_getElem? (i := 813) (by decide +kernel), List.mem_of_getElem? (i := 814) (by decide +kernel)⟩
theorem lw_p26 : lw_okq (⟨"SungEvidence", "keepCourt", "()V"⟩, 17) := ⟨⟨by decide +kernel, by decide +kernel⟩, List.mem_of_getElem? (i := 23) (by decide +kernel), List.mem_of_getElem? (i := 821) (by decide +kernel), List.mem_of_getElem? (i := 822) (by decide +kernel)⟩
theorem lw_p27 : lw_okq (⟨"SungEvidence$Deeds", "singNotes", "(III)I"⟩, 3) := ⟨⟨by decide +kernel, by decide +kernel⟩, List.mem_of_getElem? (i := 310) (by decide +kernel), List.mem_of_getElem? (i := 837) (by decide +kernel), List.mem_of_getElem? (i := 838) (by decide +kernel)⟩
theorem lw_p28 : lw_okq (⟨"SungEvidence$Bench", "setTerms", "(II)V"⟩, 3) := ⟨⟨by decide +kernel, by decide +kernel⟩, List.mem_of_getElem? (i := 288) (by decide +kernel), List.mem_of_getElem? (i := 855) (by decide +kernel), List.mem_of_getElem? (i := 856) (by decide +kernel)⟩
theorem lw_p29 : lw_okq (⟨"SungEvidence$Law", "worth", "(II[I)I"⟩, 8) := ⟨⟨by decide +kernel, by decide +kernel⟩, List.mem_of_getElem? (i := 96) (by decide +kernel), List.mem_of_getElem? (i := 871) (by decide +kernel), List.mem_of_getElem? (i := 872) (by decide +kernel)⟩
theorem lw_p30 : lw_okq (⟨"SungEvidence$Deeds", "loseNerve", "(II)V"⟩, 3) := ⟨⟨by decide +kernel, by decide +kernel⟩, List.mem_of_getElem? (i := 310) (by decide +kernel), List.mem_of_getElem? (i := 887) (by decide +kernel), List.mem_of_getElem? (i := 888) (by decide +kernel)⟩
theorem lw_p31 : lw_okq (⟨"SungEvidence$Voices", "addChance", "(I)V"⟩, 5) := ⟨⟨by decide +kernel, by decide +kernel⟩, List.mem_of_getElem? (i := 326) (by decide +kernel), List.mem_of_getElem? (i := 1007) (by decide +kernel), List.mem_of_getElem? (i := 1008) (by decide +kernel)⟩
def lw_privs_2 : List (MethodName × Nat) := [(⟨"SungEvidence$Plan", "readEnd", "(LSungEvidence$Tape;)Z"⟩, 8), (⟨"SungEvidence$Plan", "readDeed", "(LSungEvidence$Tape;I)Z"⟩, 8), (⟨"SungEvidence$Plan", "readCall", "(LSungEvidence$Tape;I)Z"⟩, 8), (⟨"SungEvidence$Plan", "addDeed", "(IIII)V"⟩, 8), (⟨"SungEvidence$Plan", "readCross", "(LSungEvidence$Tape;I)Z"⟩, 8), (⟨"SungEvidence$Plan", "readAgain", "(LSungEvidence$Tape;)Z"⟩, 8), (⟨"SungEvidence$Plan", "closeAgain", "(LSungEvidence$Tape;)Z"⟩, 8), (⟨"SungEvidence$Plan", "copyDeed", "(II)V"⟩, 8), (⟨"SungEvidence", "adoptPlan", "()I"⟩, 17), (⟨"SungEvidence$Deeds", "barsOf", "(II)I"⟩, 3), (⟨"SungEvidence", "keepCourt", "()V"⟩, 17), (⟨"SungEvidence$Deeds", "singNotes", "(III)I"⟩, 3), (⟨"SungEvidence$Bench", "setTerms", "(II)V"⟩, 3), (⟨"SungEvidence$Law", "worth", "(II[I)I"⟩, 8), (⟨"SungEvidence$Deeds", "loseNerve", "(II)V"⟩, 3), (⟨"SungEvidence$Voices", "addChance", "(I)V"⟩, 5)]
theorem lw_r2 : ∀ q ∈ lw_privs_2, lw_okq q := List.forall_mem_cons.mpr ⟨lw_p16, List.forall_mem_cons.mpr ⟨lw_p17, List.forall_mem_cons.mpr ⟨lw_p18, List.forall_mem_cons.mpr ⟨lw_p19, List.forall_mem_cons.mpr ⟨lw_p20, List.forall_mem_cons.mpr ⟨lw_p21, List.forall_mem_cons.mpr ⟨lw_p22, List.forall_mem_cons.mpr ⟨lw_p23, List.forall_mem_cons.mpr ⟨lw_p24, List.forall_mem_cons.mpr ⟨lw_p25, List.forall_mem_cons.mpr ⟨lw_p26, List.forall_mem_cons.mpr ⟨lw_p27, List.forall_mem_cons.mpr ⟨lw_p28, List.forall_mem_cons.mpr ⟨lw_p29, List.forall_mem_cons.mpr ⟨lw_p30, List.forall_mem_cons.mpr ⟨lw_p31, fun _ h => absurd h List.not_mem_nil⟩⟩⟩⟩⟩⟩⟩⟩⟩⟩⟩⟩⟩⟩⟩⟩
theorem lw_p32 : lw_okq (⟨"SungEvidence$Voices", "fewestUnlike", "(I)I"⟩, 5) := ⟨⟨by decide +kernel, by decide +kernel⟩, List.mem_of_getElem? (i := 326) (by decide +kernel), List.mem_of_getElem? (i := 1024) (by decide +kernel), List.mem_of_getElem? (i := 1025) (by decide +kernel)⟩
theorem lw_p33 : lw_okq (⟨"SungEvidence$Voices", "unlikeFrom", "(II)I"⟩, 5) := ⟨⟨by decide +kernel, by decide +kernel⟩, List.mem_of_getElem? (i := 326) (by decide +kernel), List.mem_of_getElem? (i := 1030) (by decide +kernel), List.mem_of_getElem? (i := 1031) (by decide +kernel)⟩
theorem lw_p34 : lw_okq (⟨"SungEvidence$Voices", "soundingFrom", "(III)I"⟩, 5) := ⟨⟨by decide +kernel, by decide +kernel⟩, List.mem_of_getElem? (i := 326) (by decide +kernel), List.mem_of_getElem? (i := 1071) (by decide +kernel), List.mem_of_getElem? (i := 1072) (by decide +kernel)⟩
theorem lw_p35 : lw_okq (⟨"SungEvidence$Verdict", "weighAll", "(I)V"⟩, 7) := ⟨⟨by decide +kernel, by decide +kernel⟩, List.mem_of_getElem? (i := 349) (by decide +kernel), List.mem_of_getElem? (i := 1094) (by decide +kernel), List.mem_of_getElem? (i := 1095) (by decide +kernel)⟩
theorem lw_p36 : lw_okq (⟨"SungEvidence$Verdict", "missingFor", "(I)I"⟩, 7) := ⟨⟨by decide +kernel, by decide +kernel⟩, List.mem_of_getElem? (i := 349) (by decide +kernel), List.mem_of_getElem? (i := 1108) (by decide +kernel), List.mem_of_getElem? (i := 1109) (by decide +kernel)⟩
theorem lw_p37 : lw_okq (⟨"SungEvidence$Verdict", "callable", "(II)I"⟩, 7) := ⟨⟨by decide +kernel, by decide +kernel⟩, List.mem_of_getElem? (i := 349) (by decide +kernel), List.mem_of_getElem? (i := 1121) (by decide +kernel), List.mem_of_getElem? (i := 1122) (by decide +kernel)⟩
theorem lw_p38 : lw_okq (⟨"SungEvidence$Verdict", "sumOf", "(I)I"⟩, 7) := ⟨⟨by decide +kernel, by decide +kernel⟩, List.mem_of_getElem? (i := 349) (by decide +kernel), List.mem_of_getElem? (i := 1134) (by decide +kernel), List.mem_of_getElem? (i := 1135) (by decide +kernel)⟩
theorem lw_p39 : lw_okq (⟨"SungEvidence$Verdict", "opponentsOf", "(I)I"⟩, 7) := ⟨⟨by decide +kernel, by decide +kernel⟩, List.mem_of_getElem? (i := 349) (by decide +kernel), List.mem_of_getElem? (i := 1147) (by decide +kernel), List.mem_of_getElem? (i := 1148) (by decide +kernel)⟩
theorem lw_p40 : lw_okq (⟨"SungEvidence$Verdict", "agree", "(I)Z"⟩, 7) := ⟨⟨by decide +kernel, by decide +kernel⟩, List.mem_of_getElem? (i := 349) (by decide +kernel), List.mem_of_getElem? (i := 1155) (by decide +kernel), List.mem_of_getElem? (i := 1156) (by decide +kernel)⟩
theorem lw_p41 : lw_okq (⟨"SungEvidence$Verdict", "tellLiars", "()V"⟩, 7) := ⟨⟨by decide +kernel, by decide +kernel⟩, List.mem_of_getElem? (i := 349) (by decide +kernel), List.mem_of_getElem? (i := 1167) (by decide +kernel), List.mem_of_getElem? (i := 1168) (by decide +kernel)⟩
theorem lw_p42 : lw_okq (⟨"SungEvidence$Verdict", "countWorlds", "(III)I"⟩, 7) := ⟨⟨by decide +kernel, by decide +kernel⟩, List.mem_of_getElem? (i := 349) (by decide +kernel), List.mem_of_getElem? (i := 1171) (by decide +kernel), List.mem_of_getElem? (i := 1172) (by decide +kernel)⟩
theorem lw_p43 : lw_okq (⟨"SungEvidence$Verdict", "sureFacts", "(I)I"⟩, 7) := ⟨⟨by decide +kernel, by decide +kernel⟩, List.mem_of_getElem? (i := 349) (by decide +kernel), List.mem_of_getElem? (i := 1175) (by decide +kernel), List.mem_of_getElem? (i := 1176) (by decide +kernel)⟩
theorem lw_p44 : lw_okq (⟨"SungEvidence$Verdict", "mostAlike", "(I)I"⟩, 7) := ⟨⟨by decide +kernel, by decide +kernel⟩, List.mem_of_getElem? (i := 349) (by decide +kernel), List.mem_of_getElem? (i := 1179) (by decide +kernel), List.mem_of_getElem? (i := 1180) (by decide +kernel)⟩
theorem lw_p45 : lw_okq (⟨"SungEvidence$Verdict", "factToAsk", "(I)I"⟩, 7) := ⟨⟨by decide +kernel, by decide +kernel⟩, List.mem_of_getElem? (i := 349) (by decide +kernel), List.mem_of_getElem? (i := 1183) (by decide +kernel), List.mem_of_getElem? (i := 1184) (by decide +kernel)⟩
theorem lw_p46 : lw_okq (⟨"SungEvidence$Voices", "tellSounds", "()V"⟩, 5) := ⟨⟨by decide +kernel, by decide +kernel⟩, List.mem_of_getElem? (i := 326) (by decide +kernel), List.mem_of_getElem? (i := 1195) (by decide +kernel), List.mem_of_getElem? (i := 1196) (by decide +kernel)⟩
theorem lw_p47 : lw_okq (⟨"SungEvidence$Voices", "rangeOf", "(I)J"⟩, 5) := ⟨⟨by decide +kernel, by decide +kernel⟩, List.mem_of_getElem? (i := 326) (by decide +kernel), List.mem_of_getElem? (i := 1203) (by decide +kernel), List.mem_of_getElem? (i := 1204) (by decide +kernel)⟩
def lw_privs_3 : List (MethodName × Nat) := [(⟨"SungEvidence$Voices", "fewestUnlike", "(I)I"⟩, 5), (⟨"SungEvidence$Voices", "unlikeFrom", "(II)I"⟩, 5), (⟨"SungEvidence$Voices", "soundingFrom", "(III)I"⟩, 5), (⟨"SungEvidence$Verdict", "weighAll", "(I)V"⟩, 7), (⟨"SungEvidence$Verdict", "missingFor", "(I)I"⟩, 7), (⟨"SungEvidence$Verdict", "callable", "(II)I"⟩, 7), (⟨"SungEvidence$Verdict", "sumOf", "(I)I"⟩, 7), (⟨"SungEvidence$Verdict", "opponentsOf", "(I)I"⟩, 7), (⟨"SungEvidence$Verdict", "agree", "(I)Z"⟩, 7), (⟨"SungEvidence$Verdict", "tellLiars", "()V"⟩, 7), (⟨"SungEvidence$Verdict", "countWorlds", "(III)I"⟩, 7), (⟨"SungEvidence$Verdict", "sureFacts", "(I)I"⟩, 7), (⟨"SungEvidence$Verdict", "mostAlike", "(I)I"⟩, 7), (⟨"SungEvidence$Verdict", "factToAsk", "(I)I"⟩, 7), (⟨"SungEvidence$Voices", "tellSounds", "()V"⟩, 5), (⟨"SungEvidence$Voices", "rangeOf", "(I)J"⟩, 5)]
theorem lw_r3 : ∀ q ∈ lw_privs_3, lw_okq q := List.forall_mem_cons.mpr ⟨lw_p32, List.forall_mem_cons.mpr ⟨lw_p33, List.forall_mem_cons.mpr ⟨lw_p34, List.forall_mem_cons.mpr ⟨lw_p35, List.forall_mem_cons.mpr ⟨lw_p36, List.forall_mem_cons.mpr ⟨lw_p37, List.forall_mem_cons.mpr ⟨lw_p38, List.forall_mem_cons.mpr ⟨lw_p39, List.forall_mem_cons.mpr ⟨lw_p40, List.forall_mem_cons.mpr ⟨lw_p41, List.forall_mem_cons.mpr ⟨lw_p42, List.forall_mem_cons.mpr ⟨lw_p43, List.forall_mem_cons.mpr ⟨lw_p44, List.forall_mem_cons.mpr ⟨lw_p45, List.forall_mem_cons.mpr ⟨lw_p46, List.forall_mem_cons.mpr ⟨lw_p47, fun _ h => absurd h List.not_mem_nil⟩⟩⟩⟩⟩⟩⟩⟩⟩⟩⟩⟩⟩⟩⟩⟩
theorem lw_p48 : lw_okq (⟨"SungEvidenceModel", "isIn", "(III)Z"⟩, 59) := ⟨⟨by decide +kernel, by decide +kernel⟩, List.mem_of_getElem? (i := 1239) (by decide +kernel), List.mem_of_getElem? (i := 1435) (by decide +kernel), List.mem_of_getElem? (i := 1436) (by decide +kernel)⟩
theorem lw_p49 : lw_okq (⟨"SungEvidenceModel", "isWitness", "(I)Z"⟩, 59) := ⟨⟨by decide +kernel, by decide +kernel⟩, List.mem_of_getElem? (i := 1239) (by decide +kernel), List.mem_of_getElem? (i := 1443) (by decide +kernel), List.mem_of_getElem? (i := 1444) (by decide +kernel)⟩
theorem lw_p50 : lw_okq (⟨"SungEvidenceModel", "isFact", "(I)Z"⟩, 59) := ⟨⟨by decide +kernel, by decide +kernel⟩, List.mem_of_getElem? (i := 1239) (by decide +kernel), List.mem_of_getElem? (i := 1447) (by decide +kernel), List.mem_of_getElem? (i := 1448) (by decide +kernel)⟩
theorem lw_p51 : lw_okq (⟨"SungEvidenceModel", "canSet", "(III)Z"⟩, 59) := ⟨⟨by decide +kernel, by decide +kernel⟩, List.mem_of_getElem? (i := 1239) (by decide +kernel), List.mem_of_getElem? (i := 1455) (by decide +kernel), List.mem_of_getElem? (i := 1456) (by decide +kernel)⟩
theorem lw_p52 : lw_okq (⟨"SungEvidenceModel", "nerveBe", "(II)V"⟩, 59) := ⟨⟨by decide +kernel, by decide +kernel⟩, List.mem_of_getElem? (i := 1239) (by decide +kernel), List.mem_of_getElem? (i := 1459) (by decide +kernel), List.mem_of_getElem? (i := 1460) (by decide +kernel)⟩
theorem lw_p53 : lw_okq (⟨"SungEvidenceModel", "held", "(III)I"⟩, 59) := ⟨⟨by decide +kernel, by decide +kernel⟩, List.mem_of_getElem? (i := 1239) (by decide +kernel), List.mem_of_getElem? (i := 1463) (by decide +kernel), List.mem_of_getElem? (i := 1464) (by decide +kernel)⟩
theorem lw_p54 : lw_okq (⟨"SungEvidenceModel", "types", "(I)V"⟩, 59) := ⟨⟨by decide +kernel, by decide +kernel⟩, List.mem_of_getElem? (i := 1239) (by decide +kernel), List.mem_of_getElem? (i := 1471) (by decide +kernel), List.mem_of_getElem? (i := 1472) (by decide +kernel)⟩
theorem lw_p55 : lw_okq (⟨"SungEvidenceModel", "readsText", "(I)I"⟩, 59) := ⟨⟨by decide +kernel, by decide +kernel⟩, List.mem_of_getElem? (i := 1239) (by decide +kernel), List.mem_of_getElem? (i := 1483) (by decide +kernel), List.mem_of_getElem? (i := 1484) (by decide +kernel)⟩
theorem lw_p56 : lw_okq (⟨"SungEvidenceModel", "reads", "()V"⟩, 59) := ⟨⟨by decide +kernel, by decide +kernel⟩, List.mem_of_getElem? (i := 1239) (by decide +kernel), List.mem_of_getElem? (i := 1487) (by decide +kernel), List.mem_of_getElem? (i := 1488) (by decide +kernel)⟩
theorem lw_p57 : lw_okq (⟨"SungEvidenceModel", "raw", "(I)I"⟩, 59) := ⟨⟨by decide +kernel, by decide +kernel⟩, List.mem_of_getElem? (i := 1239) (by decide +kernel), List.mem_of_getElem? (i := 1491) (by decide +kernel), List.mem_of_getElem? (i := 1492) (by decide +kernel)⟩
theorem lw_p58 : lw_okq (⟨"SungEvidenceModel", "isLetter", "(I)Z"⟩, 59) := ⟨⟨by decide +kernel, by decide +kernel⟩, List.mem_of_getElem? (i := 1239) (by decide +kernel), List.mem_of_getElem? (i := 1495) (by decide +kernel), List.mem_of_getElem? (i := 1496) (by decide +kernel)⟩
theorem lw_p59 : lw_okq (⟨"SungEvidenceModel", "wordAt", "(II)I"⟩, 59) := ⟨⟨by decide +kernel, by decide +kernel⟩, List.mem_of_getElem? (i := 1239) (by decide +kernel), List.mem_of_getElem? (i := 1499) (by decide +kernel), List.mem_of_getElem? (i := 1500) (by decide +kernel)⟩
theorem lw_p60 : lw_okq (⟨"SungEvidenceModel", "isDigit", "(I)Z"⟩, 59) := ⟨⟨by decide +kernel, by decide +kernel⟩, List.mem_of_getElem? (i := 1239) (by decide +kernel), List.mem_of_getElem? (i := 1503) (by decide +kernel), List.mem_of_getElem? (i := 1504) (by decide +kernel)⟩
theorem lw_p61 : lw_okq (⟨"SungEvidenceModel", "isMarkSign", "(I)Z"⟩, 59) := ⟨⟨by decide +kernel, by decide +kernel⟩, List.mem_of_getElem? (i := 1239) (by decide +kernel), List.mem_of_getElem? (i := 1507) (by decide +kernel), List.mem_of_getElem? (i := 1508) (by decide +kernel)⟩
theorem lw_p62 : lw_okq (⟨"SungEvidenceModel", "readMotives", "()I"⟩, 59) := ⟨⟨by decide +kernel, by decide +kernel⟩, List.mem_of_getElem? (i := 1239) (by decide +kernel), List.mem_of_getElem? (i := 1511) (by decide +kernel), List.mem_of_getElem? (i := 1512) (by decide +kernel)⟩
theorem lw_p63 : lw_okq (⟨"SungEvidenceModel", "isWord", "(I)Z"⟩, 59) := ⟨⟨by decide +kernel, by decide +kernel⟩, List.mem_of_getElem? (i := 1239) (by decide +kernel), List.mem_of_getElem? (i := 1515) (by decide +kernel), List.mem_of_getElem? (i := 1516) (by decide +kernel)⟩
def lw_privs_4 : List (MethodName × Nat) := [(⟨"SungEvidenceModel", "isIn", "(III)Z"⟩, 59), (⟨"SungEvidenceModel", "isWitness", "(I)Z"⟩, 59), (⟨"SungEvidenceModel", "isFact", "(I)Z"⟩, 59), (⟨"SungEvidenceModel", "canSet", "(III)Z"⟩, 59), (⟨"SungEvidenceModel", "nerveBe", "(II)V"⟩, 59), (⟨"SungEvidenceModel", "held", "(III)I"⟩, 59), (⟨"SungEvidenceModel", "types", "(I)V"⟩, 59), (⟨"SungEvidenceModel", "readsText", "(I)I"⟩, 59), (⟨"SungEvidenceModel", "reads", "()V"⟩, 59), (⟨"SungEvidenceModel", "raw", "(I)I"⟩, 59), (⟨"SungEvidenceModel", "isLetter", "(I)Z"⟩, 59), (⟨"SungEvidenceModel", "wordAt", "(II)I"⟩, 59), (⟨"SungEvidenceModel", "isDigit", "(I)Z"⟩, 59), (⟨"SungEvidenceModel", "isMarkSign", "(I)Z"⟩, 59), (⟨"SungEvidenceModel", "readMotives", "()I"⟩, 59), (⟨"SungEvidenceModel", "isWord", "(I)Z"⟩, 59)]
theorem lw_r4 : ∀ q ∈ lw_privs_4, lw_okq q := List.forall_mem_cons.mpr ⟨lw_p48, List.forall_mem_cons.mpr ⟨lw_p49, List.forall_mem_cons.mpr ⟨lw_p50, List.forall_mem_cons.mpr ⟨lw_p51, List.forall_mem_cons.mpr ⟨lw_p52, List.forall_mem_cons.mpr ⟨lw_p53, List.forall_mem_cons.mpr ⟨lw_p54, List.forall_mem_cons.mpr ⟨lw_p55, List.forall_mem_cons.mpr ⟨lw_p56, List.forall_mem_cons.mpr ⟨lw_p57, List.forall_mem_cons.mpr ⟨lw_p58, List.forall_mem_cons.mpr ⟨lw_p59, List.forall_mem_cons.mpr ⟨lw_p60, List.forall_mem_cons.mpr ⟨lw_p61, List.forall_mem_cons.mpr ⟨lw_p62, List.forall_mem_cons.mpr ⟨lw_p63, fun _ h => absurd h List.not_mem_nil⟩⟩⟩⟩⟩⟩⟩⟩⟩⟩⟩⟩⟩⟩⟩⟩
theorem lw_p64 : lw_okq (⟨"SungEvidenceModel", "errs", "(I)I"⟩, 59) := ⟨⟨by decide +kernel, by decide +kernel⟩, List.mem_of_getElem? (i := 1239) (by decide +kernel), List.mem_of_getElem? (i := 1519) (by decide +kernel), List.mem_of_getElem? (i := 1520) (by decide +kernel)⟩
theorem lw_p65 : lw_okq (⟨"SungEvidenceModel", "readMotive", "()I"⟩, 59) := ⟨⟨by decide +kernel, by decide +kernel⟩, List.mem_of_getElem? (i := 1239) (by decide +kernel), List.mem_of_getElem? (i := 1523) (by decide +kernel), List.mem_of_getElem? (i := 1524) (by decide +kernel)⟩
theorem lw_p66 : lw_okq (⟨"SungEvidenceModel", "readTold", "(III)I"⟩, 59) := ⟨⟨by decide +kernel, by decide +kernel⟩, List.mem_of_getElem? (i := 1239) (by decide +kernel), List.mem_of_getElem? (i := 1527) (by decide +kernel), List.mem_of_getElem? (i := 1528) (by decide +kernel)⟩
theorem lw_p67 : lw_okq (⟨"SungEvidenceModel", "readNumber", "(II)I"⟩, 59) := ⟨⟨by decide +kernel, by decide +kernel⟩, List.mem_of_getElem? (i := 1239) (by decide +kernel), List.mem_of_getElem? (i := 1531) (by decide +kernel), List.mem_of_getElem? (i := 1532) (by decide +kernel)⟩
theorem lw_p68 : lw_okq (⟨"SungEvidenceModel", "readStep", "(I)I"⟩, 59) := ⟨⟨by decide +kernel, by decide +kernel⟩, List.mem_of_getElem? (i := 1239) (by decide +kernel), List.mem_of_getElem? (i := 1535) (by decide +kernel), List.mem_of_getElem? (i := 1536) (by decide +kernel)⟩
theorem lw_p69 : lw_okq (⟨"SungEvidenceModel", "readMark", "(I)I"⟩, 59) := ⟨⟨by decide +kernel, by decide +kernel⟩, List.mem_of_getElem? (i := 1239) (by decide +kernel), List.mem_of_getElem? (i := 1539) (by decide +kernel), List.mem_of_getElem? (i := 1540) (by decide +kernel)⟩
theorem lw_p70 : lw_okq (⟨"SungEvidenceModel", "isSign", "(I)Z"⟩, 59) := ⟨⟨by decide +kernel, by decide +kernel⟩, List.mem_of_getElem? (i := 1239) (by decide +kernel), List.mem_of_getElem? (i := 1543) (by decide +kernel), List.mem_of_getElem? (i := 1544) (by decide +kernel)⟩
theorem lw_p71 : lw_okq (⟨"SungEvidenceModel", "readSteps", "()I"⟩, 59) := ⟨⟨by decide +kernel, by decide +kernel⟩, List.mem_of_getElem? (i := 1239) (by decide +kernel), List.mem_of_getElem? (i := 1547) (by decide +kernel), List.mem_of_getElem? (i := 1548) (by decide +kernel)⟩
theorem lw_p72 : lw_okq (⟨"SungEvidenceModel", "readCall", "()I"⟩, 59) := ⟨⟨by decide +kernel, by decide +kernel⟩, List.mem_of_getElem? (i := 1239) (by decide +kernel), List.mem_of_getElem? (i := 1551) (by decide +kernel), List.mem_of_getElem? (i := 1552) (by decide +kernel)⟩
theorem lw_p73 : lw_okq (⟨"SungEvidenceModel", "emitsStep", "(IIII)V"⟩, 59) := ⟨⟨by decide +kernel, by decide +kernel⟩, List.mem_of_getElem? (i := 1239) (by decide +kernel), List.mem_of_getElem? (i := 1555) (by decide +kernel), List.mem_of_getElem? (i := 1556) (by decide +kernel)⟩
theorem lw_p74 : lw_okq (⟨"SungEvidenceModel", "readCross", "()I"⟩, 59) := ⟨⟨by decide +kernel, by decide +kernel⟩, List.mem_of_getElem? (i := 1239) (by decide +kernel), List.mem_of_getElem? (i := 1559) (by decide +kernel), List.mem_of_getElem? (i := 1560) (by decide +kernel)⟩
theorem lw_p75 : lw_okq (⟨"SungEvidenceModel", "readAgain", "()I"⟩, 59) := ⟨⟨by decide +kernel, by decide +kernel⟩, List.mem_of_getElem? (i := 1239) (by decide +kernel), List.mem_of_getElem? (i := 1563) (by decide +kernel), List.mem_of_getElem? (i := 1564) (by decide +kernel)⟩
theorem lw_p76 : lw_okq (⟨"SungEvidenceModel", "readOther", "()I"⟩, 59) := ⟨⟨by decide +kernel, by decide +kernel⟩, List.mem_of_getElem? (i := 1239) (by decide +kernel), List.mem_of_getElem? (i := 1567) (by decide +kernel), List.mem_of_getElem? (i := 1568) (by decide +kernel)⟩
theorem lw_p77 : lw_okq (⟨"SungEvidenceModel", "laysDeeds", "()I"⟩, 59) := ⟨⟨by decide +kernel, by decide +kernel⟩, List.mem_of_getElem? (i := 1239) (by decide +kernel), List.mem_of_getElem? (i := 1571) (by decide +kernel), List.mem_of_getElem? (i := 1572) (by decide +kernel)⟩
theorem lw_p78 : lw_okq (⟨"SungEvidenceModel", "readLaw", "()I"⟩, 59) := ⟨⟨by decide +kernel, by decide +kernel⟩, List.mem_of_getElem? (i := 1239) (by decide +kernel), List.mem_of_getElem? (i := 1575) (by decide +kernel), List.mem_of_getElem? (i := 1576) (by decide +kernel)⟩
theorem lw_p79 : lw_okq (⟨"SungEvidenceModel", "isLineWord", "()Z"⟩, 59) := ⟨⟨by decide +kernel, by decide +kernel⟩, List.mem_of_getElem? (i := 1239) (by decide +kernel), List.mem_of_getElem? (i := 1579) (by decide +kernel), List.mem_of_getElem? (i := 1580) (by decide +kernel)⟩
def lw_privs_5 : List (MethodName × Nat) := [(⟨"SungEvidenceModel", "errs", "(I)I"⟩, 59), (⟨"SungEvidenceModel", "readMotive", "()I"⟩, 59), (⟨"SungEvidenceModel", "readTold", "(III)I"⟩, 59), (⟨"SungEvidenceModel", "readNumber", "(II)I"⟩, 59), (⟨"SungEvidenceModel", "readStep", "(I)I"⟩, 59), (⟨"SungEvidenceModel", "readMark", "(I)I"⟩, 59), (⟨"SungEvidenceModel", "isSign", "(I)Z"⟩, 59), (⟨"SungEvidenceModel", "readSteps", "()I"⟩, 59), (⟨"SungEvidenceModel", "readCall", "()I"⟩, 59), (⟨"SungEvidenceModel", "emitsStep", "(IIII)V"⟩, 59), (⟨"SungEvidenceModel", "readCross", "()I"⟩, 59), (⟨"SungEvidenceModel", "readAgain", "()I"⟩, 59), (⟨"SungEvidenceModel", "readOther", "()I"⟩, 59), (⟨"SungEvidenceModel", "laysDeeds", "()I"⟩, 59), (⟨"SungEvidenceModel", "readLaw", "()I"⟩, 59), (⟨"SungEvidenceModel", "isLineWord", "()Z"⟩, 59)]
theorem lw_r5 : ∀ q ∈ lw_privs_5, lw_okq q := List.forall_mem_cons.mpr ⟨lw_p64, List.forall_mem_cons.mpr ⟨lw_p65, List.forall_mem_cons.mpr ⟨lw_p66, List.forall_mem_cons.mpr ⟨lw_p67, List.forall_mem_cons.mpr ⟨lw_p68, List.forall_mem_cons.mpr ⟨lw_p69, List.forall_mem_cons.mpr ⟨lw_p70, List.forall_mem_cons.mpr ⟨lw_p71, List.forall_mem_cons.mpr ⟨lw_p72, List.forall_mem_cons.mpr ⟨lw_p73, List.forall_mem_cons.mpr ⟨lw_p74, List.forall_mem_cons.mpr ⟨lw_p75, List.forall_mem_cons.mpr ⟨lw_p76, List.forall_mem_cons.mpr ⟨lw_p77, List.forall_mem_cons.mpr ⟨lw_p78, List.forall_mem_cons.mpr ⟨lw_p79, fun _ h => absurd h List.not_mem_nil⟩⟩⟩⟩⟩⟩⟩⟩⟩⟩⟩⟩⟩⟩⟩⟩
theorem lw_p80 : lw_okq (⟨"SungEvidenceModel", "readSum", "()I"⟩, 59) := ⟨⟨by decide +kernel, by decide +kernel⟩, List.mem_of_getElem? (i := 1239) (by decide +kernel), List.mem_of_getElem? (i := 1583) (by decide +kernel), List.mem_of_getElem? (i := 1584) (by decide +kernel)⟩
theorem lw_p81 : lw_okq (⟨"SungEvidenceModel", "readProduct", "()I"⟩, 59) := ⟨⟨by decide +kernel, by decide +kernel⟩, List.mem_of_getElem? (i := 1239) (by decide +kernel), List.mem_of_getElem? (i := 1587) (by decide +kernel), List.mem_of_getElem? (i := 1588) (by decide +kernel)⟩
theorem lw_p82 : lw_okq (⟨"SungEvidenceModel", "readUnit", "()I"⟩, 59) := ⟨⟨by decide +kernel, by decide +kernel⟩, List.mem_of_getElem? (i := 1239) (by decide +kernel), List.mem_of_getElem? (i := 1591) (by decide +kernel), List.mem_of_getElem? (i := 1592) (by decide +kernel)⟩
theorem lw_p83 : lw_okq (⟨"SungEvidenceModel", "canAsk", "(I)Z"⟩, 59) := ⟨⟨by decide +kernel, by decide +kernel⟩, List.mem_of_getElem? (i := 1239) (by decide +kernel), List.mem_of_getElem? (i := 1595) (by decide +kernel), List.mem_of_getElem? (i := 1596) (by decide +kernel)⟩
theorem lw_p84 : lw_okq (⟨"SungEvidenceModel", "emits", "(II)V"⟩, 59) := ⟨⟨by decide +kernel, by decide +kernel⟩, List.mem_of_getElem? (i := 1239) (by decide +kernel), List.mem_of_getElem? (i := 1599) (by decide +kernel), List.mem_of_getElem? (i := 1600) (by decide +kernel)⟩
theorem lw_p85 : lw_okq (⟨"SungEvidenceModel", "readAny", "()I"⟩, 59) := ⟨⟨by decide +kernel, by decide +kernel⟩, List.mem_of_getElem? (i := 1239) (by decide +kernel), List.mem_of_getElem? (i := 1603) (by decide +kernel), List.mem_of_getElem? (i := 1604) (by decide +kernel)⟩
theorem lw_p86 : lw_okq (⟨"SungEvidenceModel", "waits", "(I)V"⟩, 59) := ⟨⟨by decide +kernel, by decide +kernel⟩, List.mem_of_getElem? (i := 1239) (by decide +kernel), List.mem_of_getElem? (i := 1607) (by decide +kernel), List.mem_of_getElem? (i := 1608) (by decide +kernel)⟩
theorem lw_p87 : lw_okq (⟨"SungEvidenceModel", "readCompared", "()I"⟩, 59) := ⟨⟨by decide +kernel, by decide +kernel⟩, List.mem_of_getElem? (i := 1239) (by decide +kernel), List.mem_of_getElem? (i := 1611) (by decide +kernel), List.mem_of_getElem? (i := 1612) (by decide +kernel)⟩
theorem lw_p88 : lw_okq (⟨"SungEvidenceModel", "settles", "(I)V"⟩, 59) := ⟨⟨by decide +kernel, by decide +kernel⟩, List.mem_of_getElem? (i := 1239) (by decide +kernel), List.mem_of_getElem? (i := 1615) (by decide +kernel), List.mem_of_getElem? (i := 1616) (by decide +kernel)⟩
theorem lw_p89 : lw_okq (⟨"SungEvidenceModel", "takesLaw", "(I)V"⟩, 59) := ⟨⟨by decide +kernel, by decide +kernel⟩, List.mem_of_getElem? (i := 1239) (by decide +kernel), List.mem_of_getElem? (i := 1619) (by decide +kernel), List.mem_of_getElem? (i := 1620) (by decide +kernel)⟩
theorem lw_p90 : lw_okq (⟨"SungEvidenceModel", "takesOther", "(II)V"⟩, 59) := ⟨⟨by decide +kernel, by decide +kernel⟩, List.mem_of_getElem? (i := 1239) (by decide +kernel), List.mem_of_getElem? (i := 1623) (by decide +kernel), List.mem_of_getElem? (i := 1624) (by decide +kernel)⟩
theorem lw_p91 : lw_okq (⟨"SungEvidenceModel", "canCall", "(III)Z"⟩, 59) := ⟨⟨by decide +kernel, by decide +kernel⟩, List.mem_of_getElem? (i := 1239) (by decide +kernel), List.mem_of_getElem? (i := 1635) (by decide +kernel), List.mem_of_getElem? (i := 1636) (by decide +kernel)⟩
theorem lw_p92 : lw_okq (⟨"SungEvidenceModel", "isSung", "(III)Z"⟩, 59) := ⟨⟨by decide +kernel, by decide +kernel⟩, List.mem_of_getElem? (i := 1239) (by decide +kernel), List.mem_of_getElem? (i := 1639) (by decide +kernel), List.mem_of_getElem? (i := 1640) (by decide +kernel)⟩
theorem lw_p93 : lw_okq (⟨"SungEvidenceModel", "motiveOf", "(II)I"⟩, 59) := ⟨⟨by decide +kernel, by decide +kernel⟩, List.mem_of_getElem? (i := 1239) (by decide +kernel), List.mem_of_getElem? (i := 1643) (by decide +kernel), List.mem_of_getElem? (i := 1644) (by decide +kernel)⟩
theorem lw_p94 : lw_okq (⟨"SungEvidenceModel", "claimOf", "(II)I"⟩, 59) := ⟨⟨by decide +kernel, by decide +kernel⟩, List.mem_of_getElem? (i := 1239) (by decide +kernel), List.mem_of_getElem? (i := 1647) (by decide +kernel), List.mem_of_getElem? (i := 1648) (by decide +kernel)⟩
theorem lw_p95 : lw_okq (⟨"SungEvidenceModel", "notesOf", "(I)I"⟩, 59) := ⟨⟨by decide +kernel, by decide +kernel⟩, List.mem_of_getElem? (i := 1239) (by decide +kernel), List.mem_of_getElem? (i := 1651) (by decide +kernel), List.mem_of_getElem? (i := 1652) (by decide +kernel)⟩
def lw_privs_6 : List (MethodName × Nat) := [(⟨"SungEvidenceModel", "readSum", "()I"⟩, 59), (⟨"SungEvidenceModel", "readProduct", "()I"⟩, 59), (⟨"SungEvidenceModel", "readUnit", "()I"⟩, 59), (⟨"SungEvidenceModel", "canAsk", "(I)Z"⟩, 59), (⟨"SungEvidenceModel", "emits", "(II)V"⟩, 59), (⟨"SungEvidenceModel", "readAny", "()I"⟩, 59), (⟨"SungEvidenceModel", "waits", "(I)V"⟩, 59), (⟨"SungEvidenceModel", "readCompared", "()I"⟩, 59), (⟨"SungEvidenceModel", "settles", "(I)V"⟩, 59), (⟨"SungEvidenceModel", "takesLaw", "(I)V"⟩, 59), (⟨"SungEvidenceModel", "takesOther", "(II)V"⟩, 59), (⟨"SungEvidenceModel", "canCall", "(III)Z"⟩, 59), (⟨"SungEvidenceModel", "isSung", "(III)Z"⟩, 59), (⟨"SungEvidenceModel", "motiveOf", "(II)I"⟩, 59), (⟨"SungEvidenceModel", "claimOf", "(II)I"⟩, 59), (⟨"SungEvidenceModel", "notesOf", "(I)I"⟩, 59)]
theorem lw_r6 : ∀ q ∈ lw_privs_6, lw_okq q := List.forall_mem_cons.mpr ⟨lw_p80, List.forall_mem_cons.mpr ⟨lw_p81, List.forall_mem_cons.mpr ⟨lw_p82, List.forall_mem_cons.mpr ⟨lw_p83, List.forall_mem_cons.mpr ⟨lw_p84, List.forall_mem_cons.mpr ⟨lw_p85, List.forall_mem_cons.mpr ⟨lw_p86, List.forall_mem_cons.mpr ⟨lw_p87, List.forall_mem_cons.mpr ⟨lw_p88, List.forall_mem_cons.mpr ⟨lw_p89, List.forall_mem_cons.mpr ⟨lw_p90, List.forall_mem_cons.mpr ⟨lw_p91, List.forall_mem_cons.mpr ⟨lw_p92, List.forall_mem_cons.mpr ⟨lw_p93, List.forall_mem_cons.mpr ⟨lw_p94, List.forall_mem_cons.mpr ⟨lw_p95, fun _ h => absurd h List.not_mem_nil⟩⟩⟩⟩⟩⟩⟩⟩⟩⟩⟩⟩⟩⟩⟩⟩
theorem lw_p96 : lw_okq (⟨"SungEvidenceModel", "canSing", "(IIII)Z"⟩, 59) := ⟨⟨by decide +kernel, by decide +kernel⟩, List.mem_of_getElem? (i := 1239) (by decide +kernel), List.mem_of_getElem? (i := 1655) (by decide +kernel), List.mem_of_getElem? (i := 1656) (by decide +kernel)⟩
theorem lw_p97 : lw_okq (⟨"SungEvidenceModel", "aboveOf", "(II)I"⟩, 59) := ⟨⟨by decide +kernel, by decide +kernel⟩, List.mem_of_getElem? (i := 1239) (by decide +kernel), List.mem_of_getElem? (i := 1659) (by decide +kernel), List.mem_of_getElem? (i := 1660) (by decide +kernel)⟩
theorem lw_p98 : lw_okq (⟨"SungEvidenceModel", "stepOf", "(II)I"⟩, 59) := ⟨⟨by decide +kernel, by decide +kernel⟩, List.mem_of_getElem? (i := 1239) (by decide +kernel), List.mem_of_getElem? (i := 1663) (by decide +kernel), List.mem_of_getElem? (i := 1664) (by decide +kernel)⟩
theorem lw_p99 : lw_okq (⟨"SungEvidenceModel", "barsFor", "(II)I"⟩, 59) := ⟨⟨by decide +kernel, by decide +kernel⟩, List.mem_of_getElem? (i := 1239) (by decide +kernel), List.mem_of_getElem? (i := 1667) (by decide +kernel), List.mem_of_getElem? (i := 1668) (by decide +kernel)⟩
theorem lw_p100 : lw_okq (⟨"SungEvidenceModel", "keepsAhead", "()V"⟩, 59) := ⟨⟨by decide +kernel, by decide +kernel⟩, List.mem_of_getElem? (i := 1239) (by decide +kernel), List.mem_of_getElem? (i := 1671) (by decide +kernel), List.mem_of_getElem? (i := 1672) (by decide +kernel)⟩
theorem lw_p101 : lw_okq (⟨"SungEvidenceModel", "sings", "(III)I"⟩, 59) := ⟨⟨by decide +kernel, by decide +kernel⟩, List.mem_of_getElem? (i := 1239) (by decide +kernel), List.mem_of_getElem? (i := 1675) (by decide +kernel), List.mem_of_getElem? (i := 1676) (by decide +kernel)⟩
theorem lw_p102 : lw_okq (⟨"SungEvidenceModel", "bars", "(I)V"⟩, 59) := ⟨⟨by decide +kernel, by decide +kernel⟩, List.mem_of_getElem? (i := 1239) (by decide +kernel), List.mem_of_getElem? (i := 1679) (by decide +kernel), List.mem_of_getElem? (i := 1680) (by decide +kernel)⟩
theorem lw_p103 : lw_okq (⟨"SungEvidenceModel", "draw", "(I)I"⟩, 59) := ⟨⟨by decide +kernel, by decide +kernel⟩, List.mem_of_getElem? (i := 1239) (by decide +kernel), List.mem_of_getElem? (i := 1683) (by decide +kernel), List.mem_of_getElem? (i := 1684) (by decide +kernel)⟩
theorem lw_p104 : lw_okq (⟨"SungEvidenceModel", "slipOf", "(IIIII)I"⟩, 59) := ⟨⟨by decide +kernel, by decide +kernel⟩, List.mem_of_getElem? (i := 1239) (by decide +kernel), List.mem_of_getElem? (i := 1689) (by decide +kernel), List.mem_of_getElem? (i := 1690) (by decide +kernel)⟩
theorem lw_p105 : lw_okq (⟨"SungEvidenceModel", "asks", "(IIII)V"⟩, 59) := ⟨⟨by decide +kernel, by decide +kernel⟩, List.mem_of_getElem? (i := 1239) (by decide +kernel), List.mem_of_getElem? (i := 1693) (by decide +kernel), List.mem_of_getElem? (i := 1694) (by decide +kernel)⟩
theorem lw_p106 : lw_okq (⟨"SungEvidenceModel", "nerveOf", "(I)I"⟩, 59) := ⟨⟨by decide +kernel, by decide +kernel⟩, List.mem_of_getElem? (i := 1239) (by decide +kernel), List.mem_of_getElem? (i := 1697) (by decide +kernel), List.mem_of_getElem? (i := 1698) (by decide +kernel)⟩
theorem lw_p107 : lw_okq (⟨"SungEvidenceModel", "sungBy", "(I)I"⟩, 59) := ⟨⟨by decide +kernel, by decide +kernel⟩, List.mem_of_getElem? (i := 1239) (by decide +kernel), List.mem_of_getElem? (i := 1701) (by decide +kernel), List.mem_of_getElem? (i := 1702) (by decide +kernel)⟩
theorem lw_p108 : lw_okq (⟨"SungEvidenceModel", "ofTestimony", "(II)I"⟩, 59) := ⟨⟨by decide +kernel, by decide +kernel⟩, List.mem_of_getElem? (i := 1239) (by decide +kernel), List.mem_of_getElem? (i := 1705) (by decide +kernel), List.mem_of_getElem? (i := 1706) (by decide +kernel)⟩
theorem lw_p109 : lw_okq (⟨"SungEvidenceModel", "lawTells", "(III)I"⟩, 59) := ⟨⟨by decide +kernel, by decide +kernel⟩, List.mem_of_getElem? (i := 1239) (by decide +kernel), List.mem_of_getElem? (i := 1709) (by decide +kernel), List.mem_of_getElem? (i := 1710) (by decide +kernel)⟩
theorem lw_p110 : lw_okq (⟨"SungEvidenceModel", "lineOf", "(I)I"⟩, 59) := ⟨⟨by decide +kernel, by decide +kernel⟩, List.mem_of_getElem? (i := 1239) (by decide +kernel), List.mem_of_getElem? (i := 1713) (by decide +kernel), List.mem_of_getElem? (i := 1714) (by decide +kernel)⟩
theorem lw_p111 : lw_okq (⟨"SungEvidenceModel", "runs", "(III)I"⟩, 59) := ⟨⟨by decide +kernel, by decide +kernel⟩, List.mem_of_getElem? (i := 1239) (by decide +kernel), List.mem_of_getElem? (i := 1717) (by decide +kernel), List.mem_of_getElem? (i := 1718) (by decide +kernel)⟩
def lw_privs_7 : List (MethodName × Nat) := [(⟨"SungEvidenceModel", "canSing", "(IIII)Z"⟩, 59), (⟨"SungEvidenceModel", "aboveOf", "(II)I"⟩, 59), (⟨"SungEvidenceModel", "stepOf", "(II)I"⟩, 59), (⟨"SungEvidenceModel", "barsFor", "(II)I"⟩, 59), (⟨"SungEvidenceModel", "keepsAhead", "()V"⟩, 59), (⟨"SungEvidenceModel", "sings", "(III)I"⟩, 59), (⟨"SungEvidenceModel", "bars", "(I)V"⟩, 59), (⟨"SungEvidenceModel", "draw", "(I)I"⟩, 59), (⟨"SungEvidenceModel", "slipOf", "(IIIII)I"⟩, 59), (⟨"SungEvidenceModel", "asks", "(IIII)V"⟩, 59), (⟨"SungEvidenceModel", "nerveOf", "(I)I"⟩, 59), (⟨"SungEvidenceModel", "sungBy", "(I)I"⟩, 59), (⟨"SungEvidenceModel", "ofTestimony", "(II)I"⟩, 59), (⟨"SungEvidenceModel", "lawTells", "(III)I"⟩, 59), (⟨"SungEvidenceModel", "lineOf", "(I)I"⟩, 59), (⟨"SungEvidenceModel", "runs", "(III)I"⟩, 59)]
theorem lw_r7 : ∀ q ∈ lw_privs_7, lw_okq q := List.forall_mem_cons.mpr ⟨lw_p96, List.forall_mem_cons.mpr ⟨lw_p97, List.forall_mem_cons.mpr ⟨lw_p98, List.forall_mem_cons.mpr ⟨lw_p99, List.forall_mem_cons.mpr ⟨lw_p100, List.forall_mem_cons.mpr ⟨lw_p101, List.forall_mem_cons.mpr ⟨lw_p102, List.forall_mem_cons.mpr ⟨lw_p103, List.forall_mem_cons.mpr ⟨lw_p104, List.forall_mem_cons.mpr ⟨lw_p105, List.forall_mem_cons.mpr ⟨lw_p106, List.forall_mem_cons.mpr ⟨lw_p107, List.forall_mem_cons.mpr ⟨lw_p108, List.forall_mem_cons.mpr ⟨lw_p109, List.forall_mem_cons.mpr ⟨lw_p110, List.forall_mem_cons.mpr ⟨lw_p111, fun _ h => absurd h List.not_mem_nil⟩⟩⟩⟩⟩⟩⟩⟩⟩⟩⟩⟩⟩⟩⟩⟩
theorem lw_p112 : lw_okq (⟨"SungEvidenceModel", "twoOf", "(III)I"⟩, 59) := ⟨⟨by decide +kernel, by decide +kernel⟩, List.mem_of_getElem? (i := 1239) (by decide +kernel), List.mem_of_getElem? (i := 1721) (by decide +kernel), List.mem_of_getElem? (i := 1722) (by decide +kernel)⟩
theorem lw_p113 : lw_okq (⟨"SungEvidenceModel", "shakeOf", "(III)I"⟩, 59) := ⟨⟨by decide +kernel, by decide +kernel⟩, List.mem_of_getElem? (i := 1239) (by decide +kernel), List.mem_of_getElem? (i := 1725) (by decide +kernel), List.mem_of_getElem? (i := 1726) (by decide +kernel)⟩
theorem lw_p114 : lw_okq (⟨"SungEvidenceModel", "notes", "(IIII)V"⟩, 59) := ⟨⟨by decide +kernel, by decide +kernel⟩, List.mem_of_getElem? (i := 1239) (by decide +kernel), List.mem_of_getElem? (i := 1729) (by decide +kernel), List.mem_of_getElem? (i := 1730) (by decide +kernel)⟩
theorem lw_p115 : lw_okq (⟨"SungEvidenceModel", "crosses", "(I)I"⟩, 59) := ⟨⟨by decide +kernel, by decide +kernel⟩, List.mem_of_getElem? (i := 1239) (by decide +kernel), List.mem_of_getElem? (i := 1737) (by decide +kernel), List.mem_of_getElem? (i := 1738) (by decide +kernel)⟩
theorem lw_p116 : lw_okq (⟨"SungEvidenceModel", "isTestimony", "(I)Z"⟩, 59) := ⟨⟨by decide +kernel, by decide +kernel⟩, List.mem_of_getElem? (i := 1239) (by decide +kernel), List.mem_of_getElem? (i := 1745) (by decide +kernel), List.mem_of_getElem? (i := 1746) (by decide +kernel)⟩
theorem lw_p117 : lw_okq (⟨"SungEvidenceModel", "isStruck", "(I)Z"⟩, 59) := ⟨⟨by decide +kernel, by decide +kernel⟩, List.mem_of_getElem? (i := 1239) (by decide +kernel), List.mem_of_getElem? (i := 1749) (by decide +kernel), List.mem_of_getElem? (i := 1750) (by decide +kernel)⟩
theorem lw_p118 : lw_okq (⟨"SungEvidenceModel", "restsDay", "()V"⟩, 59) := ⟨⟨by decide +kernel, by decide +kernel⟩, List.mem_of_getElem? (i := 1239) (by decide +kernel), List.mem_of_getElem? (i := 1757) (by decide +kernel), List.mem_of_getElem? (i := 1758) (by decide +kernel)⟩
theorem lw_p119 : lw_okq (⟨"SungEvidenceModel", "hoarseMany", "()I"⟩, 59) := ⟨⟨by decide +kernel, by decide +kernel⟩, List.mem_of_getElem? (i := 1239) (by decide +kernel), List.mem_of_getElem? (i := 1761) (by decide +kernel), List.mem_of_getElem? (i := 1762) (by decide +kernel)⟩
theorem lw_p120 : lw_okq (⟨"SungEvidenceModel", "restsOfTrial", "()I"⟩, 59) := ⟨⟨by decide +kernel, by decide +kernel⟩, List.mem_of_getElem? (i := 1239) (by decide +kernel), List.mem_of_getElem? (i := 1769) (by decide +kernel), List.mem_of_getElem? (i := 1770) (by decide +kernel)⟩
theorem lw_p121 : lw_okq (⟨"SungEvidenceModel", "ofDeed", "(II)I"⟩, 59) := ⟨⟨by decide +kernel, by decide +kernel⟩, List.mem_of_getElem? (i := 1239) (by decide +kernel), List.mem_of_getElem? (i := 1773) (by decide +kernel), List.mem_of_getElem? (i := 1774) (by decide +kernel)⟩
theorem lw_p122 : lw_okq (⟨"SungEvidenceModel", "isDone", "(I)Z"⟩, 59) := ⟨⟨by decide +kernel, by decide +kernel⟩, List.mem_of_getElem? (i := 1239) (by decide +kernel), List.mem_of_getElem? (i := 1777) (by decide +kernel), List.mem_of_getElem? (i := 1778) (by decide +kernel)⟩
theorem lw_p123 : lw_okq (⟨"SungEvidenceModel", "weighOf", "(IIII)I"⟩, 59) := ⟨⟨by decide +kernel, by decide +kernel⟩, List.mem_of_getElem? (i := 1239) (by decide +kernel), List.mem_of_getElem? (i := 1789) (by decide +kernel), List.mem_of_getElem? (i := 1790) (by decide +kernel)⟩
theorem lw_p124 : lw_okq (⟨"SungEvidenceModel", "findsKeys", "(II)V"⟩, 59) := ⟨⟨by decide +kernel, by decide +kernel⟩, List.mem_of_getElem? (i := 1239) (by decide +kernel), List.mem_of_getElem? (i := 1809) (by decide +kernel), List.mem_of_getElem? (i := 1810) (by decide +kernel)⟩
theorem lw_p125 : lw_okq (⟨"SungEvidenceModel", "unlikeTo", "(I)I"⟩, 59) := ⟨⟨by decide +kernel, by decide +kernel⟩, List.mem_of_getElem? (i := 1239) (by decide +kernel), List.mem_of_getElem? (i := 1827) (by decide +kernel), List.mem_of_getElem? (i := 1828) (by decide +kernel)⟩
theorem lw_p126 : lw_okq (⟨"SungEvidenceModel", "lesser", "(II)I"⟩, 59) := ⟨⟨by decide +kernel, by decide +kernel⟩, List.mem_of_getElem? (i := 1239) (by decide +kernel), List.mem_of_getElem? (i := 1831) (by decide +kernel), List.mem_of_getElem? (i := 1832) (by decide +kernel)⟩
theorem lw_p127 : lw_okq (⟨"SungEvidenceModel", "doSound", "(II)Z"⟩, 59) := ⟨⟨by decide +kernel, by decide +kernel⟩, List.mem_of_getElem? (i := 1239) (by decide +kernel), List.mem_of_getElem? (i := 1839) (by decide +kernel), List.mem_of_getElem? (i := 1840) (by decide +kernel)⟩
def lw_privs_8 : List (MethodName × Nat) := [(⟨"SungEvidenceModel", "twoOf", "(III)I"⟩, 59), (⟨"SungEvidenceModel", "shakeOf", "(III)I"⟩, 59), (⟨"SungEvidenceModel", "notes", "(IIII)V"⟩, 59), (⟨"SungEvidenceModel", "crosses", "(I)I"⟩, 59), (⟨"SungEvidenceModel", "isTestimony", "(I)Z"⟩, 59), (⟨"SungEvidenceModel", "isStruck", "(I)Z"⟩, 59), (⟨"SungEvidenceModel", "restsDay", "()V"⟩, 59), (⟨"SungEvidenceModel", "hoarseMany", "()I"⟩, 59), (⟨"SungEvidenceModel", "restsOfTrial", "()I"⟩, 59), (⟨"SungEvidenceModel", "ofDeed", "(II)I"⟩, 59), (⟨"SungEvidenceModel", "isDone", "(I)Z"⟩, 59), (⟨"SungEvidenceModel", "weighOf", "(IIII)I"⟩, 59), (⟨"SungEvidenceModel", "findsKeys", "(II)V"⟩, 59), (⟨"SungEvidenceModel", "unlikeTo", "(I)I"⟩, 59), (⟨"SungEvidenceModel", "lesser", "(II)I"⟩, 59), (⟨"SungEvidenceModel", "doSound", "(II)Z"⟩, 59)]
theorem lw_r8 : ∀ q ∈ lw_privs_8, lw_okq q := List.forall_mem_cons.mpr ⟨lw_p112, List.forall_mem_cons.mpr ⟨lw_p113, List.forall_mem_cons.mpr ⟨lw_p114, List.forall_mem_cons.mpr ⟨lw_p115, List.forall_mem_cons.mpr ⟨lw_p116, List.forall_mem_cons.mpr ⟨lw_p117, List.forall_mem_cons.mpr ⟨lw_p118, List.forall_mem_cons.mpr ⟨lw_p119, List.forall_mem_cons.mpr ⟨lw_p120, List.forall_mem_cons.mpr ⟨lw_p121, List.forall_mem_cons.mpr ⟨lw_p122, List.forall_mem_cons.mpr ⟨lw_p123, List.forall_mem_cons.mpr ⟨lw_p124, List.forall_mem_cons.mpr ⟨lw_p125, List.forall_mem_cons.mpr ⟨lw_p126, List.forall_mem_cons.mpr ⟨lw_p127, fun _ h => absurd h List.not_mem_nil⟩⟩⟩⟩⟩⟩⟩⟩⟩⟩⟩⟩⟩⟩⟩⟩
theorem lw_p128 : lw_okq (⟨"SungEvidenceModel", "soundNow", "()I"⟩, 59) := ⟨⟨by decide +kernel, by decide +kernel⟩, List.mem_of_getElem? (i := 1239) (by decide +kernel), List.mem_of_getElem? (i := 1843) (by decide +kernel), List.mem_of_getElem? (i := 1844) (by decide +kernel)⟩
theorem lw_p129 : lw_okq (⟨"SungEvidenceModel", "far", "(II)I"⟩, 59) := ⟨⟨by decide +kernel, by decide +kernel⟩, List.mem_of_getElem? (i := 1239) (by decide +kernel), List.mem_of_getElem? (i := 1847) (by decide +kernel), List.mem_of_getElem? (i := 1848) (by decide +kernel)⟩
theorem lw_p130 : lw_okq (⟨"SungEvidenceModel", "soundsWith", "(III)I"⟩, 59) := ⟨⟨by decide +kernel, by decide +kernel⟩, List.mem_of_getElem? (i := 1239) (by decide +kernel), List.mem_of_getElem? (i := 1855) (by decide +kernel), List.mem_of_getElem? (i := 1856) (by decide +kernel)⟩
theorem lw_p131 : lw_okq (⟨"SungEvidenceModel", "greater", "(II)I"⟩, 59) := ⟨⟨by decide +kernel, by decide +kernel⟩, List.mem_of_getElem? (i := 1239) (by decide +kernel), List.mem_of_getElem? (i := 1859) (by decide +kernel), List.mem_of_getElem? (i := 1860) (by decide +kernel)⟩
theorem lw_p132 : lw_okq (⟨"SungEvidenceModel", "weighedFor", "(II)I"⟩, 59) := ⟨⟨by decide +kernel, by decide +kernel⟩, List.mem_of_getElem? (i := 1239) (by decide +kernel), List.mem_of_getElem? (i := 1871) (by decide +kernel), List.mem_of_getElem? (i := 1872) (by decide +kernel)⟩
theorem lw_p133 : lw_okq (⟨"SungEvidenceModel", "flatsNow", "()I"⟩, 59) := ⟨⟨by decide +kernel, by decide +kernel⟩, List.mem_of_getElem? (i := 1239) (by decide +kernel), List.mem_of_getElem? (i := 1875) (by decide +kernel), List.mem_of_getElem? (i := 1876) (by decide +kernel)⟩
theorem lw_p134 : lw_okq (⟨"SungEvidenceModel", "isFoundWith", "(III)Z"⟩, 59) := ⟨⟨by decide +kernel, by decide +kernel⟩, List.mem_of_getElem? (i := 1239) (by decide +kernel), List.mem_of_getElem? (i := 1883) (by decide +kernel), List.mem_of_getElem? (i := 1884) (by decide +kernel)⟩
theorem lw_p135 : lw_okq (⟨"SungEvidenceModel", "needNow", "()I"⟩, 59) := ⟨⟨by decide +kernel, by decide +kernel⟩, List.mem_of_getElem? (i := 1239) (by decide +kernel), List.mem_of_getElem? (i := 1887) (by decide +kernel), List.mem_of_getElem? (i := 1888) (by decide +kernel)⟩
theorem lw_p136 : lw_okq (⟨"SungEvidenceModel", "singersFor", "(II)I"⟩, 59) := ⟨⟨by decide +kernel, by decide +kernel⟩, List.mem_of_getElem? (i := 1239) (by decide +kernel), List.mem_of_getElem? (i := 1895) (by decide +kernel), List.mem_of_getElem? (i := 1896) (by decide +kernel)⟩
theorem lw_p137 : lw_okq (⟨"SungEvidenceModel", "onesOf", "(I)I"⟩, 59) := ⟨⟨by decide +kernel, by decide +kernel⟩, List.mem_of_getElem? (i := 1239) (by decide +kernel), List.mem_of_getElem? (i := 1899) (by decide +kernel), List.mem_of_getElem? (i := 1900) (by decide +kernel)⟩
theorem lw_p138 : lw_okq (⟨"SungEvidenceModel", "isChoir", "(I)Z"⟩, 59) := ⟨⟨by decide +kernel, by decide +kernel⟩, List.mem_of_getElem? (i := 1239) (by decide +kernel), List.mem_of_getElem? (i := 1907) (by decide +kernel), List.mem_of_getElem? (i := 1908) (by decide +kernel)⟩
theorem lw_p139 : lw_okq (⟨"SungEvidenceModel", "doAgree", "(II)Z"⟩, 59) := ⟨⟨by decide +kernel, by decide +kernel⟩, List.mem_of_getElem? (i := 1239) (by decide +kernel), List.mem_of_getElem? (i := 1911) (by decide +kernel), List.mem_of_getElem? (i := 1912) (by decide +kernel)⟩
theorem lw_p140 : lw_okq (⟨"SungEvidenceModel", "findsWorlds", "(I)I"⟩, 59) := ⟨⟨by decide +kernel, by decide +kernel⟩, List.mem_of_getElem? (i := 1239) (by decide +kernel), List.mem_of_getElem? (i := 1919) (by decide +kernel), List.mem_of_getElem? (i := 1920) (by decide +kernel)⟩
theorem lw_p141 : lw_okq (⟨"SungEvidenceModel", "liarsIn", "(I)I"⟩, 59) := ⟨⟨by decide +kernel, by decide +kernel⟩, List.mem_of_getElem? (i := 1239) (by decide +kernel), List.mem_of_getElem? (i := 1923) (by decide +kernel), List.mem_of_getElem? (i := 1924) (by decide +kernel)⟩
theorem lw_p142 : lw_okq (⟨"SungEvidenceModel", "valueIn", "(II)I"⟩, 59) := ⟨⟨by decide +kernel, by decide +kernel⟩, List.mem_of_getElem? (i := 1239) (by decide +kernel), List.mem_of_getElem? (i := 1927) (by decide +kernel), List.mem_of_getElem? (i := 1928) (by decide +kernel)⟩
theorem lw_p143 : lw_okq (⟨"SungEvidenceModel", "mostIn", "(I)I"⟩, 59) := ⟨⟨by decide +kernel, by decide +kernel⟩, List.mem_of_getElem? (i := 1239) (by decide +kernel), List.mem_of_getElem? (i := 1931) (by decide +kernel), List.mem_of_getElem? (i := 1932) (by decide +kernel)⟩
def lw_privs_9 : List (MethodName × Nat) := [(⟨"SungEvidenceModel", "soundNow", "()I"⟩, 59), (⟨"SungEvidenceModel", "far", "(II)I"⟩, 59), (⟨"SungEvidenceModel", "soundsWith", "(III)I"⟩, 59), (⟨"SungEvidenceModel", "greater", "(II)I"⟩, 59), (⟨"SungEvidenceModel", "weighedFor", "(II)I"⟩, 59), (⟨"SungEvidenceModel", "flatsNow", "()I"⟩, 59), (⟨"SungEvidenceModel", "isFoundWith", "(III)Z"⟩, 59), (⟨"SungEvidenceModel", "needNow", "()I"⟩, 59), (⟨"SungEvidenceModel", "singersFor", "(II)I"⟩, 59), (⟨"SungEvidenceModel", "onesOf", "(I)I"⟩, 59), (⟨"SungEvidenceModel", "isChoir", "(I)Z"⟩, 59), (⟨"SungEvidenceModel", "doAgree", "(II)Z"⟩, 59), (⟨"SungEvidenceModel", "findsWorlds", "(I)I"⟩, 59), (⟨"SungEvidenceModel", "liarsIn", "(I)I"⟩, 59), (⟨"SungEvidenceModel", "valueIn", "(II)I"⟩, 59), (⟨"SungEvidenceModel", "mostIn", "(I)I"⟩, 59)]
theorem lw_r9 : ∀ q ∈ lw_privs_9, lw_okq q := List.forall_mem_cons.mpr ⟨lw_p128, List.forall_mem_cons.mpr ⟨lw_p129, List.forall_mem_cons.mpr ⟨lw_p130, List.forall_mem_cons.mpr ⟨lw_p131, List.forall_mem_cons.mpr ⟨lw_p132, List.forall_mem_cons.mpr ⟨lw_p133, List.forall_mem_cons.mpr ⟨lw_p134, List.forall_mem_cons.mpr ⟨lw_p135, List.forall_mem_cons.mpr ⟨lw_p136, List.forall_mem_cons.mpr ⟨lw_p137, List.forall_mem_cons.mpr ⟨lw_p138, List.forall_mem_cons.mpr ⟨lw_p139, List.forall_mem_cons.mpr ⟨lw_p140, List.forall_mem_cons.mpr ⟨lw_p141, List.forall_mem_cons.mpr ⟨lw_p142, List.forall_mem_cons.mpr ⟨lw_p143, fun _ h => absurd h List.not_mem_nil⟩⟩⟩⟩⟩⟩⟩⟩⟩⟩⟩⟩⟩⟩⟩⟩
theorem lw_p144 : lw_okq (⟨"SungEvidenceModel", "areWitnesses", "(IIII)Z"⟩, 59) := ⟨⟨by decide +kernel, by decide +kernel⟩, List.mem_of_getElem? (i := 1239) (by decide +kernel), List.mem_of_getElem? (i := 1939) (by decide +kernel), List.mem_of_getElem? (i := 1940) (by decide +kernel)⟩
theorem lw_p145 : lw_okq (⟨"SungEvidenceModel", "isUnlike", "(IIII)Z"⟩, 59) := ⟨⟨by decide +kernel, by decide +kernel⟩, List.mem_of_getElem? (i := 1239) (by decide +kernel), List.mem_of_getElem? (i := 1943) (by decide +kernel), List.mem_of_getElem? (i := 1944) (by decide +kernel)⟩
theorem lw_p146 : lw_okq (⟨"SungEvidenceModel", "keeps", "(I)I"⟩, 59) := ⟨⟨by decide +kernel, by decide +kernel⟩, List.mem_of_getElem? (i := 1239) (by decide +kernel), List.mem_of_getElem? (i := 1951) (by decide +kernel), List.mem_of_getElem? (i := 1952) (by decide +kernel)⟩
theorem lw_p147 : lw_okq (⟨"SungEvidenceModel", "keepsTold", "()V"⟩, 59) := ⟨⟨by decide +kernel, by decide +kernel⟩, List.mem_of_getElem? (i := 1239) (by decide +kernel), List.mem_of_getElem? (i := 1955) (by decide +kernel), List.mem_of_getElem? (i := 1956) (by decide +kernel)⟩
theorem lw_p148 : lw_okq (⟨"SungEvidenceModel", "keepsLaw", "()V"⟩, 59) := ⟨⟨by decide +kernel, by decide +kernel⟩, List.mem_of_getElem? (i := 1239) (by decide +kernel), List.mem_of_getElem? (i := 1959) (by decide +kernel), List.mem_of_getElem? (i := 1960) (by decide +kernel)⟩
def lw_privs_10 : List (MethodName × Nat) := [(⟨"SungEvidenceModel", "areWitnesses", "(IIII)Z"⟩, 59), (⟨"SungEvidenceModel", "isUnlike", "(IIII)Z"⟩, 59), (⟨"SungEvidenceModel", "keeps", "(I)I"⟩, 59), (⟨"SungEvidenceModel", "keepsTold", "()V"⟩, 59), (⟨"SungEvidenceModel", "keepsLaw", "()V"⟩, 59)]
theorem lw_r10 : ∀ q ∈ lw_privs_10, lw_okq q := List.forall_mem_cons.mpr ⟨lw_p144, List.forall_mem_cons.mpr ⟨lw_p145, List.forall_mem_cons.mpr ⟨lw_p146, List.forall_mem_cons.mpr ⟨lw_p147, List.forall_mem_cons.mpr ⟨lw_p148, fun _ h => absurd h List.not_mem_nil⟩⟩⟩⟩⟩
def lw_privs : List (MethodName × Nat) := lw_privs_1 ++ (lw_privs_2 ++ (lw_privs_3 ++ (lw_privs_4 ++ (lw_privs_5 ++ (lw_privs_6 ++ (lw_privs_7 ++ (lw_privs_8 ++ (lw_privs_9 ++ (lw_privs_10)))))))))
def lw_tbl : List Cond := k2_sels lw_privs ++ tables_1
theorem lw_privs_ok : ∀ q ∈ lw_privs, lw_okq q := by
  show ∀ q ∈ lw_privs_1 ++ (lw_privs_2 ++ (lw_privs_3 ++ (lw_privs_4 ++ (lw_privs_5 ++ (lw_privs_6 ++ (lw_privs_7 ++ (lw_privs_8 ++ (lw_privs_9 ++ (lw_privs_10))))))))), lw_okq q
  exact List.forall_mem_append.mpr ⟨lw_r1, List.forall_mem_append.mpr ⟨lw_r2, List.forall_mem_append.mpr ⟨lw_r3, List.forall_mem_append.mpr ⟨lw_r4, List.forall_mem_append.mpr ⟨lw_r5, List.forall_mem_append.mpr ⟨lw_r6, List.forall_mem_append.mpr ⟨lw_r7, List.forall_mem_append.mpr ⟨lw_r8, List.forall_mem_append.mpr ⟨lw_r9, lw_r10⟩⟩⟩⟩⟩⟩⟩⟩⟩
-- ===== end of PART A; then your names; then what follows =====
end
section
/-! ===== BEGIN words of one list among another's, by their places ===== -/
theorem goodIn_r {big : List Cond} (ws : List Cond) (ps : List Nat) (hp : ws = ps.filterMap (fun i => big[i]?)) (h : ws.all goodWord = true) : GoodIn big ws := by
  intro w hw
  have h1 := List.all_eq_true.mp h w hw
  rw [hp] at hw
  obtain ⟨i, -, hi⟩ := List.mem_filterMap.mp hw
  have hm : w ∈ big := by first | exact List.mem_of_getElem? hi | exact List.getElem?_mem hi
  exact ⟨hm, good_of_word h1⟩
theorem goodIn_app {big a b : List Cond} (ha : GoodIn big a) (hb : GoodIn big b) : GoodIn big (a ++ b) := fun w h => (List.mem_append.mp h).elim (ha w) (hb w)
theorem goodIn_ca {big a b : List Cond} {c : Cond} (ha : GoodIn big (c :: a)) (hb : GoodIn big b) : GoodIn big (c :: (a ++ b)) := fun w h => (List.mem_cons.mp h).elim (fun e => ha w (List.mem_cons.mpr (Or.inl e))) (fun h => (List.mem_append.mp h).elim (fun h => ha w (List.mem_cons.mpr (Or.inr h))) (hb w))
theorem goodIn_sub {big ws : List Cond} (hm : ∀ w ∈ ws, w ∈ big) (h : ws.all goodWord = true) : GoodIn big ws := fun w hw => ⟨hm w hw, good_of_word (List.all_eq_true.mp h w hw)⟩
/-! ===== END ===== -/

/-! ===== BEGIN printed: names, fields, word lists, decode rows ===== -/
def RX0 : String := "SungEvidence$Bench"
def TX0 : u_T := fun k => match k with
  | 0 => ("SungEvidence$Bench", "told", "LSungEvidence$Told;", true)
  | 1 => ("SungEvidence$Bench", "court", "LSungEvidence$Court;", true)
  | _ => ("SungEvidence$Bench", "terms", "[I", true)
def tyX0 : Nat → FieldType := fun k => match k with
  | 0 => .object "SungEvidence$Told"
  | 1 => .object "SungEvidence$Court"
  | _ => .array .int
abbrev wsX00 : List Cond := u_ws RX0 TX0 3
theorem nmX0 : ∀ a, a < 3 → ∀ b, b < 3 → a ≠ b → (TX0 a).2.1 ≠ (TX0 b).2.1 := by decide +kernel
theorem tyX0_ok : ∀ k, k < 3 → parseFieldDescriptor (TX0 k).2.2.1 = some (tyX0 k) := by decide +kernel
abbrev cX0_init : ByteArray := prog_2_method_1_code
def yX0_init : MethodName := ⟨RX0, "<init>", "(LSungEvidence$Told;LSungEvidence$Court;)V"⟩
abbrev cX0_motiveOf : ByteArray := prog_2_method_2_code
def yX0_motiveOf : MethodName := ⟨RX0, "motiveOf", "(II)I"⟩
abbrev cX0_lowestKey : ByteArray := prog_2_method_3_code
def yX0_lowestKey : MethodName := ⟨RX0, "lowestKey", "(II)I"⟩
abbrev cX0_highestKey : ByteArray := prog_2_method_4_code
def yX0_highestKey : MethodName := ⟨RX0, "highestKey", "(II)I"⟩
abbrev cX0_howManyKeys : ByteArray := prog_2_method_5_code
def yX0_howManyKeys : MethodName := ⟨RX0, "howManyKeys", "(II)I"⟩
abbrev cX0_canSing : ByteArray := prog_2_method_6_code
def yX0_canSing : MethodName := ⟨RX0, "canSing", "(III)Z"⟩
abbrev cX0_slipOf : ByteArray := prog_2_method_7_code
def yX0_slipOf : MethodName := ⟨RX0, "slipOf", "(IIII)I"⟩
abbrev cX0_shakeOf : ByteArray := prog_2_method_8_code
def yX0_shakeOf : MethodName := ⟨RX0, "shakeOf", "(II)I"⟩
abbrev cX0_weightOf : ByteArray := prog_2_method_9_code
def yX0_weightOf : MethodName := ⟨RX0, "weightOf", "(III)I"⟩
abbrev cX0_weightOfTestimony : ByteArray := prog_2_method_10_code
def yX0_weightOfTestimony : MethodName := ⟨RX0, "weightOfTestimony", "(I)I"⟩
abbrev cX0_setTerms : ByteArray := prog_2_method_11_code
def yX0_setTerms : MethodName := ⟨RX0, "setTerms", "(II)V"⟩
def RX1 : String := "SungEvidence$Court"
def TX1 : u_T := fun k => match k with
  | 0 => ("SungEvidence$Court", "drawState", "I", false)
  | 1 => ("SungEvidence$Court", "day", "I", false)
  | 2 => ("SungEvidence$Court", "nerves", "[I", true)
  | 3 => ("SungEvidence$Court", "hoarse", "[I", true)
  | 4 => ("SungEvidence$Court", "testimonies", "I", false)
  | 5 => ("SungEvidence$Court", "testimonyCells", "[I", true)
  | 6 => ("SungEvidence$Court", "bars", "I", false)
  | 7 => ("SungEvidence$Court", "record", "[I", true)
  | 8 => ("SungEvidence$Court", "lines", "I", false)
  | _ => ("SungEvidence$Court", "book", "[I", true)
def tyX1 : Nat → FieldType := fun k => match k with
  | 0 => .int
  | 1 => .int
  | 2 => .array .int
  | 3 => .array .int
  | 4 => .int
  | 5 => .array .int
  | 6 => .int
  | 7 => .array .int
  | 8 => .int
  | _ => .array .int
abbrev wsX10 : List Cond := u_ws RX1 TX1 10
theorem nmX1 : ∀ a, a < 10 → ∀ b, b < 10 → a ≠ b → (TX1 a).2.1 ≠ (TX1 b).2.1 := by decide +kernel
theorem tyX1_ok : ∀ k, k < 10 → parseFieldDescriptor (TX1 k).2.2.1 = some (tyX1 k) := by decide +kernel
abbrev cX1_init : ByteArray := prog_3_method_1_code
def yX1_init : MethodName := ⟨RX1, "<init>", "()V"⟩
abbrev cX1_copyFrom : ByteArray := prog_3_method_2_code
def yX1_copyFrom : MethodName := ⟨RX1, "copyFrom", "(LSungEvidence$Court;)V"⟩
abbrev cX1_draw : ByteArray := prog_3_method_3_code
def yX1_draw : MethodName := ⟨RX1, "draw", "(I)I"⟩
abbrev cX1_isTestimony : ByteArray := prog_3_method_4_code
def yX1_isTestimony : MethodName := ⟨RX1, "isTestimony", "(I)Z"⟩
abbrev cX1_ofTestimony : ByteArray := prog_3_method_5_code
def yX1_ofTestimony : MethodName := ⟨RX1, "ofTestimony", "(II)I"⟩
abbrev cX1_hasRoom : ByteArray := prog_3_method_6_code
def yX1_hasRoom : MethodName := ⟨RX1, "hasRoom", "(I)Z"⟩
abbrev cX1_addBar : ByteArray := prog_3_method_7_code
def yX1_addBar : MethodName := ⟨RX1, "addBar", "(I)V"⟩
abbrev cX1_addTestimony : ByteArray := prog_3_method_8_code
def yX1_addTestimony : MethodName := ⟨RX1, "addTestimony", "(IIII)V"⟩
abbrev cX1_barOf : ByteArray := prog_3_method_9_code
def yX1_barOf : MethodName := ⟨RX1, "barOf", "(II)I"⟩
abbrev cX1_sungBy : ByteArray := prog_3_method_10_code
def yX1_sungBy : MethodName := ⟨RX1, "sungBy", "(I)I"⟩
abbrev cX1_howManyHoarse : ByteArray := prog_3_method_11_code
def yX1_howManyHoarse : MethodName := ⟨RX1, "howManyHoarse", "(I)I"⟩
abbrev cX1_strikeOut : ByteArray := prog_3_method_12_code
def yX1_strikeOut : MethodName := ⟨RX1, "strikeOut", "(I)V"⟩
abbrev cX1_write : ByteArray := prog_3_method_13_code
def yX1_write : MethodName := ⟨RX1, "write", "(IIII)V"⟩
def RX2 : String := "SungEvidence$Deeds"
def TX2 : u_T := fun k => match k with
  | 0 => ("SungEvidence$Deeds", "bench", "LSungEvidence$Bench;", true)
  | 1 => ("SungEvidence$Deeds", "told", "LSungEvidence$Told;", true)
  | _ => ("SungEvidence$Deeds", "court", "LSungEvidence$Court;", true)
def tyX2 : Nat → FieldType := fun k => match k with
  | 0 => .object "SungEvidence$Bench"
  | 1 => .object "SungEvidence$Told"
  | _ => .object "SungEvidence$Court"
abbrev wsX20 : List Cond := u_ws RX2 TX2 3
theorem nmX2 : ∀ a, a < 3 → ∀ b, b < 3 → a ≠ b → (TX2 a).2.1 ≠ (TX2 b).2.1 := by decide +kernel
theorem tyX2_ok : ∀ k, k < 3 → parseFieldDescriptor (TX2 k).2.2.1 = some (tyX2 k) := by decide +kernel
abbrev cX2_init : ByteArray := prog_4_method_1_code
def yX2_init : MethodName := ⟨RX2, "<init>", "(LSungEvidence$Bench;)V"⟩
abbrev cX2_canBeCalled : ByteArray := prog_4_method_2_code
def yX2_canBeCalled : MethodName := ⟨RX2, "canBeCalled", "(III)Z"⟩
abbrev cX2_barsOf : ByteArray := prog_4_method_3_code
def yX2_barsOf : MethodName := ⟨RX2, "barsOf", "(II)I"⟩
abbrev cX2_sing : ByteArray := prog_4_method_4_code
def yX2_sing : MethodName := ⟨RX2, "sing", "(III)I"⟩
abbrev cX2_singNotes : ByteArray := prog_4_method_5_code
def yX2_singNotes : MethodName := ⟨RX2, "singNotes", "(III)I"⟩
abbrev cX2_crossExamine : ByteArray := prog_4_method_6_code
def yX2_crossExamine : MethodName := ⟨RX2, "crossExamine", "(I)V"⟩
abbrev cX2_loseNerve : ByteArray := prog_4_method_7_code
def yX2_loseNerve : MethodName := ⟨RX2, "loseNerve", "(II)V"⟩
abbrev cX2_restOneDay : ByteArray := prog_4_method_8_code
def yX2_restOneDay : MethodName := ⟨RX2, "restOneDay", "()V"⟩
abbrev cX2_goThrough : ByteArray := prog_4_method_9_code
def yX2_goThrough : MethodName := ⟨RX2, "goThrough", "(LSungEvidence$Plan;)I"⟩
def RX3 : String := "SungEvidence$Law"
def TX3 : u_T := fun k => match k with
  | 0 => ("SungEvidence$Law", "lines", "I", false)
  | 1 => ("SungEvidence$Law", "orders", "I", false)
  | 2 => ("SungEvidence$Law", "order", "[I", true)
  | 3 => ("SungEvidence$Law", "words", "[I", true)
  | 4 => ("SungEvidence$Law", "starts", "[I", true)
  | 5 => ("SungEvidence$Law", "conditions", "[I", true)
  | 6 => ("SungEvidence$Law", "ends", "[I", true)
  | _ => ("SungEvidence$Law", "stack", "[I", true)
def tyX3 : Nat → FieldType := fun k => match k with
  | 0 => .int
  | 1 => .int
  | 2 => .array .int
  | 3 => .array .int
  | 4 => .array .int
  | 5 => .array .int
  | 6 => .array .int
  | _ => .array .int
abbrev wsX30 : List Cond := u_ws RX3 TX3 8
theorem nmX3 : ∀ a, a < 8 → ∀ b, b < 8 → a ≠ b → (TX3 a).2.1 ≠ (TX3 b).2.1 := by decide +kernel
theorem tyX3_ok : ∀ k, k < 8 → parseFieldDescriptor (TX3 k).2.2.1 = some (tyX3 k) := by decide +kernel
abbrev cX3_init : ByteArray := prog_5_method_1_code
def yX3_init : MethodName := ⟨RX3, "<init>", "()V"⟩
abbrev cX3_copyFrom : ByteArray := prog_5_method_2_code
def yX3_copyFrom : MethodName := ⟨RX3, "copyFrom", "(LSungEvidence$Law;)V"⟩
abbrev cX3_clear : ByteArray := prog_5_method_3_code
def yX3_clear : MethodName := ⟨RX3, "clear", "()V"⟩
abbrev cX3_addOrder : ByteArray := prog_5_method_4_code
def yX3_addOrder : MethodName := ⟨RX3, "addOrder", "(II)Z"⟩
abbrev cX3_openLine : ByteArray := prog_5_method_5_code
def yX3_openLine : MethodName := ⟨RX3, "openLine", "(I)V"⟩
abbrev cX3_openCondition : ByteArray := prog_5_method_6_code
def yX3_openCondition : MethodName := ⟨RX3, "openCondition", "()V"⟩
abbrev cX3_closeLine : ByteArray := prog_5_method_7_code
def yX3_closeLine : MethodName := ⟨RX3, "closeLine", "()V"⟩
abbrev cX3_tell : ByteArray := prog_5_method_8_code
def yX3_tell : MethodName := ⟨RX3, "tell", "(I[II)I"⟩
abbrev cX3_worth : ByteArray := prog_5_method_9_code
def yX3_worth : MethodName := ⟨RX3, "worth", "(II[I)I"⟩
abbrev cX3_joined : ByteArray := prog_5_method_10_code
def yX3_joined : MethodName := ⟨RX3, "joined", "(III)I"⟩
def RX4 : String := "SungEvidence$LawReader"
def TX4 : u_T := fun k => match k with
  | 0 => ("SungEvidence$LawReader", "tape", "LSungEvidence$Tape;", true)
  | _ => ("SungEvidence$LawReader", "law", "LSungEvidence$Law;", true)
def tyX4 : Nat → FieldType := fun k => match k with
  | 0 => .object "SungEvidence$Tape"
  | _ => .object "SungEvidence$Law"
abbrev wsX40 : List Cond := u_ws RX4 TX4 2
theorem nmX4 : ∀ a, a < 2 → ∀ b, b < 2 → a ≠ b → (TX4 a).2.1 ≠ (TX4 b).2.1 := by decide +kernel
theorem tyX4_ok : ∀ k, k < 2 → parseFieldDescriptor (TX4 k).2.2.1 = some (tyX4 k) := by decide +kernel
abbrev cX4_init : ByteArray := prog_6_method_1_code
def yX4_init : MethodName := ⟨RX4, "<init>", "(LSungEvidence$Tape;LSungEvidence$Law;)V"⟩
abbrev cX4_readLines : ByteArray := prog_6_method_2_code
def yX4_readLines : MethodName := ⟨RX4, "readLines", "()Z"⟩
abbrev cX4_readCondition : ByteArray := prog_6_method_3_code
def yX4_readCondition : MethodName := ⟨RX4, "readCondition", "(I)Z"⟩
abbrev cX4_readTest : ByteArray := prog_6_method_4_code
def yX4_readTest : MethodName := ⟨RX4, "readTest", "(I)Z"⟩
abbrev cX4_comparisonOf : ByteArray := prog_6_method_5_code
def yX4_comparisonOf : MethodName := ⟨RX4, "comparisonOf", "(I)I"⟩
abbrev cX4_readSum : ByteArray := prog_6_method_6_code
def yX4_readSum : MethodName := ⟨RX4, "readSum", "()Z"⟩
abbrev cX4_readProduct : ByteArray := prog_6_method_7_code
def yX4_readProduct : MethodName := ⟨RX4, "readProduct", "()Z"⟩
abbrev cX4_readUnit : ByteArray := prog_6_method_8_code
def yX4_readUnit : MethodName := ⟨RX4, "readUnit", "()Z"⟩
def RX5 : String := "SungEvidence$Motives"
def TX5 : u_T := fun k => match k with
  | 0 => ("SungEvidence$Motives", "lines", "I", false)
  | 1 => ("SungEvidence$Motives", "notes", "[I", true)
  | _ => ("SungEvidence$Motives", "steps", "[I", true)
def tyX5 : Nat → FieldType := fun k => match k with
  | 0 => .int
  | 1 => .array .int
  | _ => .array .int
abbrev wsX50 : List Cond := u_ws RX5 TX5 3
theorem nmX5 : ∀ a, a < 3 → ∀ b, b < 3 → a ≠ b → (TX5 a).2.1 ≠ (TX5 b).2.1 := by decide +kernel
theorem tyX5_ok : ∀ k, k < 3 → parseFieldDescriptor (TX5 k).2.2.1 = some (tyX5 k) := by decide +kernel
abbrev cX5_init : ByteArray := prog_7_method_1_code
def yX5_init : MethodName := ⟨RX5, "<init>", "()V"⟩
abbrev cX5_copyFrom : ByteArray := prog_7_method_2_code
def yX5_copyFrom : MethodName := ⟨RX5, "copyFrom", "(LSungEvidence$Motives;)V"⟩
abbrev cX5_stepOf : ByteArray := prog_7_method_3_code
def yX5_stepOf : MethodName := ⟨RX5, "stepOf", "(II)I"⟩
abbrev cX5_rise : ByteArray := prog_7_method_4_code
def yX5_rise : MethodName := ⟨RX5, "rise", "(I)I"⟩
abbrev cX5_fall : ByteArray := prog_7_method_5_code
def yX5_fall : MethodName := ⟨RX5, "fall", "(I)I"⟩
abbrev cX5_readFrom : ByteArray := prog_7_method_6_code
def yX5_readFrom : MethodName := ⟨RX5, "readFrom", "(LSungEvidence$Tape;)Z"⟩
abbrev cX5_readLine : ByteArray := prog_7_method_7_code
def yX5_readLine : MethodName := ⟨RX5, "readLine", "(LSungEvidence$Tape;)Z"⟩
abbrev cX5_readSteps : ByteArray := prog_7_method_8_code
def yX5_readSteps : MethodName := ⟨RX5, "readSteps", "(LSungEvidence$Tape;I)Z"⟩
abbrev cX5_readStep : ByteArray := prog_7_method_9_code
def yX5_readStep : MethodName := ⟨RX5, "readStep", "(LSungEvidence$Tape;I)I"⟩
def RX6 : String := "SungEvidence$Plan"
def TX6 : u_T := fun k => match k with
  | 0 => ("SungEvidence$Plan", "howMany", "I", false)
  | 1 => ("SungEvidence$Plan", "kinds", "[I", true)
  | 2 => ("SungEvidence$Plan", "who", "[I", true)
  | 3 => ("SungEvidence$Plan", "facts", "[I", true)
  | 4 => ("SungEvidence$Plan", "inKeys", "[I", true)
  | 5 => ("SungEvidence$Plan", "againFrom", "[I", true)
  | 6 => ("SungEvidence$Plan", "againTimes", "[I", true)
  | _ => ("SungEvidence$Plan", "open", "I", false)
def tyX6 : Nat → FieldType := fun k => match k with
  | 0 => .int
  | 1 => .array .int
  | 2 => .array .int
  | 3 => .array .int
  | 4 => .array .int
  | 5 => .array .int
  | 6 => .array .int
  | _ => .int
abbrev wsX60 : List Cond := u_ws RX6 TX6 8
theorem nmX6 : ∀ a, a < 8 → ∀ b, b < 8 → a ≠ b → (TX6 a).2.1 ≠ (TX6 b).2.1 := by decide +kernel
theorem tyX6_ok : ∀ k, k < 8 → parseFieldDescriptor (TX6 k).2.2.1 = some (tyX6 k) := by decide +kernel
abbrev cX6_init : ByteArray := prog_8_method_1_code
def yX6_init : MethodName := ⟨RX6, "<init>", "()V"⟩
abbrev cX6_copyFrom : ByteArray := prog_8_method_2_code
def yX6_copyFrom : MethodName := ⟨RX6, "copyFrom", "(LSungEvidence$Plan;)V"⟩
abbrev cX6_rests : ByteArray := prog_8_method_3_code
def yX6_rests : MethodName := ⟨RX6, "rests", "()I"⟩
abbrev cX6_readFrom : ByteArray := prog_8_method_4_code
def yX6_readFrom : MethodName := ⟨RX6, "readFrom", "(LSungEvidence$Tape;I)Z"⟩
abbrev cX6_readEnd : ByteArray := prog_8_method_5_code
def yX6_readEnd : MethodName := ⟨RX6, "readEnd", "(LSungEvidence$Tape;)Z"⟩
abbrev cX6_readDeed : ByteArray := prog_8_method_6_code
def yX6_readDeed : MethodName := ⟨RX6, "readDeed", "(LSungEvidence$Tape;I)Z"⟩
abbrev cX6_readCall : ByteArray := prog_8_method_7_code
def yX6_readCall : MethodName := ⟨RX6, "readCall", "(LSungEvidence$Tape;I)Z"⟩
abbrev cX6_readCross : ByteArray := prog_8_method_8_code
def yX6_readCross : MethodName := ⟨RX6, "readCross", "(LSungEvidence$Tape;I)Z"⟩
abbrev cX6_readAgain : ByteArray := prog_8_method_9_code
def yX6_readAgain : MethodName := ⟨RX6, "readAgain", "(LSungEvidence$Tape;)Z"⟩
abbrev cX6_closeAgain : ByteArray := prog_8_method_10_code
def yX6_closeAgain : MethodName := ⟨RX6, "closeAgain", "(LSungEvidence$Tape;)Z"⟩
abbrev cX6_copyDeed : ByteArray := prog_8_method_11_code
def yX6_copyDeed : MethodName := ⟨RX6, "copyDeed", "(II)V"⟩
abbrev cX6_addDeed : ByteArray := prog_8_method_12_code
def yX6_addDeed : MethodName := ⟨RX6, "addDeed", "(IIII)V"⟩
def RX7 : String := "SungEvidence$Tape"
def TX7 : u_T := fun k => match k with
  | 0 => ("SungEvidence$Tape", "bytes", "[I", true)
  | 1 => ("SungEvidence$Tape", "length", "I", false)
  | 2 => ("SungEvidence$Tape", "fault", "I", false)
  | 3 => ("SungEvidence$Tape", "faultPlace", "I", false)
  | 4 => ("SungEvidence$Tape", "kinds", "[I", true)
  | 5 => ("SungEvidence$Tape", "places", "[I", true)
  | 6 => ("SungEvidence$Tape", "sizes", "[I", true)
  | 7 => ("SungEvidence$Tape", "tokens", "I", false)
  | _ => ("SungEvidence$Tape", "at", "I", false)
def tyX7 : Nat → FieldType := fun k => match k with
  | 0 => .array .int
  | 1 => .int
  | 2 => .int
  | 3 => .int
  | 4 => .array .int
  | 5 => .array .int
  | 6 => .array .int
  | 7 => .int
  | _ => .int
abbrev wsX70 : List Cond := u_ws RX7 TX7 9
theorem nmX7 : ∀ a, a < 9 → ∀ b, b < 9 → a ≠ b → (TX7 a).2.1 ≠ (TX7 b).2.1 := by decide +kernel
theorem tyX7_ok : ∀ k, k < 9 → parseFieldDescriptor (TX7 k).2.2.1 = some (tyX7 k) := by decide +kernel
abbrev cX7_init : ByteArray := prog_9_method_1_code
def yX7_init : MethodName := ⟨RX7, "<init>", "()V"⟩
abbrev cX7_hasRoom : ByteArray := prog_9_method_2_code
def yX7_hasRoom : MethodName := ⟨RX7, "hasRoom", "(I)Z"⟩
abbrev cX7_addNumber : ByteArray := prog_9_method_3_code
def yX7_addNumber : MethodName := ⟨RX7, "addNumber", "(I)V"⟩
abbrev cX7_clearFault : ByteArray := prog_9_method_4_code
def yX7_clearFault : MethodName := ⟨RX7, "clearFault", "()V"⟩
abbrev cX7_refuse : ByteArray := prog_9_method_5_code
def yX7_refuse : MethodName := ⟨RX7, "refuse", "(I)Z"⟩
abbrev cX7_kind : ByteArray := prog_9_method_6_code
def yX7_kind : MethodName := ⟨RX7, "kind", "()I"⟩
abbrev cX7_skip : ByteArray := prog_9_method_7_code
def yX7_skip : MethodName := ⟨RX7, "skip", "()V"⟩
abbrev cX7_take : ByteArray := prog_9_method_8_code
def yX7_take : MethodName := ⟨RX7, "take", "(I)Z"⟩
abbrev cX7_isNumberWithin : ByteArray := prog_9_method_9_code
def yX7_isNumberWithin : MethodName := ⟨RX7, "isNumberWithin", "(II)Z"⟩
abbrev cX7_number : ByteArray := prog_9_method_10_code
def yX7_number : MethodName := ⟨RX7, "number", "()I"⟩
abbrev cX7_cutIntoTokens : ByteArray := prog_9_method_11_code
def yX7_cutIntoTokens : MethodName := ⟨RX7, "cutIntoTokens", "(I)V"⟩
abbrev cX7_addToken : ByteArray := prog_9_method_12_code
def yX7_addToken : MethodName := ⟨RX7, "addToken", "(I)V"⟩
abbrev cX7_sortOf : ByteArray := prog_9_method_13_code
def yX7_sortOf : MethodName := ⟨RX7, "sortOf", "(I)I"⟩
abbrev cX7_kindOf : ByteArray := prog_9_method_14_code
def yX7_kindOf : MethodName := ⟨RX7, "kindOf", "(ILjava/lang/String;)I"⟩
abbrev cX7_wordOf : ByteArray := prog_9_method_15_code
def yX7_wordOf : MethodName := ⟨RX7, "wordOf", "(ILjava/lang/String;)I"⟩
abbrev cX7_isSpelled : ByteArray := prog_9_method_16_code
def yX7_isSpelled : MethodName := ⟨RX7, "isSpelled", "(Ljava/lang/String;III)Z"⟩
def RX8 : String := "SungEvidence$Told"
def TX8 : u_T := fun k => match k with
  | 0 => ("SungEvidence$Told", "witnesses", "I", false)
  | 1 => ("SungEvidence$Told", "low", "[I", true)
  | 2 => ("SungEvidence$Told", "high", "[I", true)
  | 3 => ("SungEvidence$Told", "breath", "[I", true)
  | 4 => ("SungEvidence$Told", "claims", "[I", true)
  | 5 => ("SungEvidence$Told", "sound", "I", false)
  | 6 => ("SungEvidence$Told", "need", "I", false)
  | 7 => ("SungEvidence$Told", "flats", "I", false)
  | 8 => ("SungEvidence$Told", "heardNotes", "I", false)
  | 9 => ("SungEvidence$Told", "heardRow", "[I", true)
  | 10 => ("SungEvidence$Told", "motives", "LSungEvidence$Motives;", true)
  | 11 => ("SungEvidence$Told", "law", "LSungEvidence$Law;", true)
  | _ => ("SungEvidence$Told", "plan", "LSungEvidence$Plan;", true)
def tyX8 : Nat → FieldType := fun k => match k with
  | 0 => .int
  | 1 => .array .int
  | 2 => .array .int
  | 3 => .array .int
  | 4 => .array .int
  | 5 => .int
  | 6 => .int
  | 7 => .int
  | 8 => .int
  | 9 => .array .int
  | 10 => .object "SungEvidence$Motives"
  | 11 => .object "SungEvidence$Law"
  | _ => .object "SungEvidence$Plan"
abbrev wsX80 : List Cond := u_ws RX8 TX8 13
theorem nmX8 : ∀ a, a < 13 → ∀ b, b < 13 → a ≠ b → (TX8 a).2.1 ≠ (TX8 b).2.1 := by decide +kernel
theorem tyX8_ok : ∀ k, k < 13 → parseFieldDescriptor (TX8 k).2.2.1 = some (tyX8 k) := by decide +kernel
abbrev cX8_init : ByteArray := prog_10_method_1_code
def yX8_init : MethodName := ⟨RX8, "<init>", "()V"⟩
abbrev cX8_copyFrom : ByteArray := prog_10_method_2_code
def yX8_copyFrom : MethodName := ⟨RX8, "copyFrom", "(LSungEvidence$Told;)V"⟩
abbrev cX8_isWitness : ByteArray := prog_10_method_3_code
def yX8_isWitness : MethodName := ⟨RX8, "isWitness", "(I)Z"⟩
abbrev cX8_addWitness : ByteArray := prog_10_method_4_code
def yX8_addWitness : MethodName := ⟨RX8, "addWitness", "(III)I"⟩
abbrev cX8_claimOf : ByteArray := prog_10_method_5_code
def yX8_claimOf : MethodName := ⟨RX8, "claimOf", "(II)I"⟩
abbrev cX8_sounds : ByteArray := prog_10_method_6_code
def yX8_sounds : MethodName := ⟨RX8, "sounds", "(II)Z"⟩
abbrev cX8_barsSound : ByteArray := prog_10_method_7_code
def yX8_barsSound : MethodName := ⟨RX8, "barsSound", "(II)Z"⟩
def RX9 : String := "SungEvidence$Verdict"
def TX9 : u_T := fun k => match k with
  | 0 => ("SungEvidence$Verdict", "bench", "LSungEvidence$Bench;", true)
  | 1 => ("SungEvidence$Verdict", "told", "LSungEvidence$Told;", true)
  | 2 => ("SungEvidence$Verdict", "court", "LSungEvidence$Court;", true)
  | 3 => ("SungEvidence$Verdict", "weights", "[I", true)
  | 4 => ("SungEvidence$Verdict", "ofWitness", "[I", true)
  | 5 => ("SungEvidence$Verdict", "liars", "[I", true)
  | _ => ("SungEvidence$Verdict", "tallies", "[I", true)
def tyX9 : Nat → FieldType := fun k => match k with
  | 0 => .object "SungEvidence$Bench"
  | 1 => .object "SungEvidence$Told"
  | 2 => .object "SungEvidence$Court"
  | 3 => .array .int
  | 4 => .array .int
  | 5 => .array .int
  | _ => .array .int
abbrev wsX90 : List Cond := u_ws RX9 TX9 7
theorem nmX9 : ∀ a, a < 7 → ∀ b, b < 7 → a ≠ b → (TX9 a).2.1 ≠ (TX9 b).2.1 := by decide +kernel
theorem tyX9_ok : ∀ k, k < 7 → parseFieldDescriptor (TX9 k).2.2.1 = some (tyX9 k) := by decide +kernel
abbrev cX9_init : ByteArray := prog_11_method_1_code
def yX9_init : MethodName := ⟨RX9, "<init>", "(LSungEvidence$Bench;)V"⟩
abbrev cX9_weightFor : ByteArray := prog_11_method_2_code
def yX9_weightFor : MethodName := ⟨RX9, "weightFor", "(II)I"⟩
abbrev cX9_weighAll : ByteArray := prog_11_method_3_code
def yX9_weighAll : MethodName := ⟨RX9, "weighAll", "(I)V"⟩
abbrev cX9_finding : ByteArray := prog_11_method_4_code
def yX9_finding : MethodName := ⟨RX9, "finding", "(I)I"⟩
abbrev cX9_missingFor : ByteArray := prog_11_method_5_code
def yX9_missingFor : MethodName := ⟨RX9, "missingFor", "(I)I"⟩
abbrev cX9_fewestCallers : ByteArray := prog_11_method_6_code
def yX9_fewestCallers : MethodName := ⟨RX9, "fewestCallers", "(II)I"⟩
abbrev cX9_callable : ByteArray := prog_11_method_7_code
def yX9_callable : MethodName := ⟨RX9, "callable", "(II)I"⟩
abbrev cX9_sumOf : ByteArray := prog_11_method_8_code
def yX9_sumOf : MethodName := ⟨RX9, "sumOf", "(I)I"⟩
abbrev cX9_largestChoir : ByteArray := prog_11_method_9_code
def yX9_largestChoir : MethodName := ⟨RX9, "largestChoir", "()I"⟩
abbrev cX9_opponentsOf : ByteArray := prog_11_method_10_code
def yX9_opponentsOf : MethodName := ⟨RX9, "opponentsOf", "(I)I"⟩
abbrev cX9_areUnlike : ByteArray := prog_11_method_11_code
def yX9_areUnlike : MethodName := ⟨RX9, "areUnlike", "(II)Z"⟩
abbrev cX9_agree : ByteArray := prog_11_method_12_code
def yX9_agree : MethodName := ⟨RX9, "agree", "(I)Z"⟩
abbrev cX9_worldsWith : ByteArray := prog_11_method_13_code
def yX9_worldsWith : MethodName := ⟨RX9, "worldsWith", "(II)I"⟩
abbrev cX9_tellLiars : ByteArray := prog_11_method_14_code
def yX9_tellLiars : MethodName := ⟨RX9, "tellLiars", "()V"⟩
abbrev cX9_countWorlds : ByteArray := prog_11_method_15_code
def yX9_countWorlds : MethodName := ⟨RX9, "countWorlds", "(III)I"⟩
abbrev cX9_sureFacts : ByteArray := prog_11_method_16_code
def yX9_sureFacts : MethodName := ⟨RX9, "sureFacts", "(I)I"⟩
abbrev cX9_factToAsk : ByteArray := prog_11_method_17_code
def yX9_factToAsk : MethodName := ⟨RX9, "factToAsk", "(I)I"⟩
abbrev cX9_mostAlike : ByteArray := prog_11_method_18_code
def yX9_mostAlike : MethodName := ⟨RX9, "mostAlike", "(I)I"⟩
def RX10 : String := "SungEvidence$Voices"
def TX10 : u_T := fun k => match k with
  | 0 => ("SungEvidence$Voices", "bench", "LSungEvidence$Bench;", true)
  | 1 => ("SungEvidence$Voices", "told", "LSungEvidence$Told;", true)
  | 2 => ("SungEvidence$Voices", "court", "LSungEvidence$Court;", true)
  | 3 => ("SungEvidence$Voices", "chances", "[I", true)
  | _ => ("SungEvidence$Voices", "soundsWith", "[J", true)
def tyX10 : Nat → FieldType := fun k => match k with
  | 0 => .object "SungEvidence$Bench"
  | 1 => .object "SungEvidence$Told"
  | 2 => .object "SungEvidence$Court"
  | 3 => .array .int
  | _ => .array .long
abbrev wsX100 : List Cond := u_ws RX10 TX10 5
theorem nmX10 : ∀ a, a < 5 → ∀ b, b < 5 → a ≠ b → (TX10 a).2.1 ≠ (TX10 b).2.1 := by decide +kernel
theorem tyX10_ok : ∀ k, k < 5 → parseFieldDescriptor (TX10 k).2.2.1 = some (tyX10 k) := by decide +kernel
abbrev cX10_init : ByteArray := prog_12_method_1_code
def yX10_init : MethodName := ⟨RX10, "<init>", "(LSungEvidence$Bench;)V"⟩
abbrev cX10_likelyWithin : ByteArray := prog_12_method_2_code
def yX10_likelyWithin : MethodName := ⟨RX10, "likelyWithin", "(IIII)I"⟩
abbrev cX10_addChance : ByteArray := prog_12_method_3_code
def yX10_addChance : MethodName := ⟨RX10, "addChance", "(I)V"⟩
abbrev cX10_motivesHeard : ByteArray := prog_12_method_4_code
def yX10_motivesHeard : MethodName := ⟨RX10, "motivesHeard", "(II)I"⟩
abbrev cX10_fewestUnlike : ByteArray := prog_12_method_5_code
def yX10_fewestUnlike : MethodName := ⟨RX10, "fewestUnlike", "(I)I"⟩
abbrev cX10_unlikeFrom : ByteArray := prog_12_method_6_code
def yX10_unlikeFrom : MethodName := ⟨RX10, "unlikeFrom", "(II)I"⟩
abbrev cX10_soundingBars : ByteArray := prog_12_method_7_code
def yX10_soundingBars : MethodName := ⟨RX10, "soundingBars", "(II)I"⟩
abbrev cX10_soundingBehind : ByteArray := prog_12_method_8_code
def yX10_soundingBehind : MethodName := ⟨RX10, "soundingBehind", "(II)I"⟩
abbrev cX10_bestKey : ByteArray := prog_12_method_9_code
def yX10_bestKey : MethodName := ⟨RX10, "bestKey", "(IIII)I"⟩
abbrev cX10_soundingFrom : ByteArray := prog_12_method_10_code
def yX10_soundingFrom : MethodName := ⟨RX10, "soundingFrom", "(III)I"⟩
abbrev cX10_chordOf : ByteArray := prog_12_method_11_code
def yX10_chordOf : MethodName := ⟨RX10, "chordOf", "(IIIII)I"⟩
abbrev cX10_chosen : ByteArray := prog_12_method_12_code
def yX10_chosen : MethodName := ⟨RX10, "chosen", "(IIII)I"⟩
abbrev cX10_tellSounds : ByteArray := prog_12_method_13_code
def yX10_tellSounds : MethodName := ⟨RX10, "tellSounds", "()V"⟩
abbrev cX10_rangeOf : ByteArray := prog_12_method_14_code
def yX10_rangeOf : MethodName := ⟨RX10, "rangeOf", "(I)J"⟩
abbrev cX10_has : ByteArray := prog_12_method_15_code
def yX10_has : MethodName := ⟨RX10, "has", "(JI)Z"⟩
abbrev cX10_lowestOf : ByteArray := prog_12_method_16_code
def yX10_lowestOf : MethodName := ⟨RX10, "lowestOf", "(J)I"⟩
def RX11 : String := "SungEvidence"
def TX11 : u_T := fun k => match k with
  | 0 => ("SungEvidence", "tape", "LSungEvidence$Tape;", true)
  | 1 => ("SungEvidence", "told", "LSungEvidence$Told;", true)
  | 2 => ("SungEvidence", "court", "LSungEvidence$Court;", true)
  | 3 => ("SungEvidence", "bench", "LSungEvidence$Bench;", true)
  | 4 => ("SungEvidence", "deeds", "LSungEvidence$Deeds;", true)
  | 5 => ("SungEvidence", "voices", "LSungEvidence$Voices;", true)
  | 6 => ("SungEvidence", "verdict", "LSungEvidence$Verdict;", true)
  | 7 => ("SungEvidence", "draftMotives", "LSungEvidence$Motives;", true)
  | 8 => ("SungEvidence", "draftLaw", "LSungEvidence$Law;", true)
  | 9 => ("SungEvidence", "draftPlan", "LSungEvidence$Plan;", true)
  | 10 => ("SungEvidence", "lawReader", "LSungEvidence$LawReader;", true)
  | 11 => ("SungEvidence", "imageTold", "LSungEvidence$Told;", true)
  | 12 => ("SungEvidence", "imageCourt", "LSungEvidence$Court;", true)
  | 13 => ("SungEvidence", "imageTaken", "Z", false)
  | 14 => ("SungEvidence", "kept", "[LSungEvidence$Court;", true)
  | 15 => ("SungEvidence", "keptCount", "I", false)
  | _ => ("SungEvidence", "keptNext", "I", false)
def tyX11 : Nat → FieldType := fun k => match k with
  | 0 => .object "SungEvidence$Tape"
  | 1 => .object "SungEvidence$Told"
  | 2 => .object "SungEvidence$Court"
  | 3 => .object "SungEvidence$Bench"
  | 4 => .object "SungEvidence$Deeds"
  | 5 => .object "SungEvidence$Voices"
  | 6 => .object "SungEvidence$Verdict"
  | 7 => .object "SungEvidence$Motives"
  | 8 => .object "SungEvidence$Law"
  | 9 => .object "SungEvidence$Plan"
  | 10 => .object "SungEvidence$LawReader"
  | 11 => .object "SungEvidence$Told"
  | 12 => .object "SungEvidence$Court"
  | 13 => .boolean
  | 14 => .array (.object "SungEvidence$Court")
  | 15 => .int
  | _ => .int
abbrev wsX110 : List Cond := u_ws RX11 TX11 17
theorem nmX11 : ∀ a, a < 17 → ∀ b, b < 17 → a ≠ b → (TX11 a).2.1 ≠ (TX11 b).2.1 := by decide +kernel
theorem tyX11_ok : ∀ k, k < 17 → parseFieldDescriptor (TX11 k).2.2.1 = some (tyX11 k) := by decide +kernel
abbrev cX11_init : ByteArray := prog_1_method_1_code
def yX11_init : MethodName := ⟨RX11, "<init>", "()V"⟩
abbrev cX11_state : ByteArray := prog_1_method_2_code
def yX11_state : MethodName := ⟨RX11, "state", "(I)I"⟩
abbrev cX11_witness : ByteArray := prog_1_method_3_code
def yX11_witness : MethodName := ⟨RX11, "witness", "(III)I"⟩
abbrev cX11_claim : ByteArray := prog_1_method_4_code
def yX11_claim : MethodName := ⟨RX11, "claim", "(III)Z"⟩
abbrev cX11_set : ByteArray := prog_1_method_5_code
def yX11_set : MethodName := ⟨RX11, "set", "(III)Z"⟩
abbrev cX11_feed : ByteArray := prog_1_method_6_code
def yX11_feed : MethodName := ⟨RX11, "feed", "(IIIII)I"⟩
abbrev cX11_end : ByteArray := prog_1_method_7_code
def yX11_end : MethodName := ⟨RX11, "end", "(I)Z"⟩
abbrev cX11_text : ByteArray := prog_1_method_8_code
def yX11_text : MethodName := ⟨RX11, "text", "(I)I"⟩
abbrev cX11_fault : ByteArray := prog_1_method_9_code
def yX11_fault : MethodName := ⟨RX11, "fault", "(I)I"⟩
abbrev cX11_call : ByteArray := prog_1_method_10_code
def yX11_call : MethodName := ⟨RX11, "call", "(III)I"⟩
abbrev cX11_cross : ByteArray := prog_1_method_11_code
def yX11_cross : MethodName := ⟨RX11, "cross", "(I)I"⟩
abbrev cX11_strike : ByteArray := prog_1_method_12_code
def yX11_strike : MethodName := ⟨RX11, "strike", "(I)Z"⟩
abbrev cX11_days : ByteArray := prog_1_method_13_code
def yX11_days : MethodName := ⟨RX11, "days", "(I)I"⟩
abbrev cX11_trial : ByteArray := prog_1_method_14_code
def yX11_trial : MethodName := ⟨RX11, "trial", "()I"⟩
abbrev cX11_of : ByteArray := prog_1_method_15_code
def yX11_of : MethodName := ⟨RX11, "of", "(II)I"⟩
abbrev cX11_testimony : ByteArray := prog_1_method_16_code
def yX11_testimony : MethodName := ⟨RX11, "testimony", "(II)I"⟩
abbrev cX11_bar : ByteArray := prog_1_method_17_code
def yX11_bar : MethodName := ⟨RX11, "bar", "(I)I"⟩
abbrev cX11_motive : ByteArray := prog_1_method_18_code
def yX11_motive : MethodName := ⟨RX11, "motive", "(II)I"⟩
abbrev cX11_book : ByteArray := prog_1_method_19_code
def yX11_book : MethodName := ⟨RX11, "book", "(II)I"⟩
abbrev cX11_keys : ByteArray := prog_1_method_20_code
def yX11_keys : MethodName := ⟨RX11, "keys", "(III)I"⟩
abbrev cX11_fair : ByteArray := prog_1_method_21_code
def yX11_fair : MethodName := ⟨RX11, "fair", "(IIII)I"⟩
abbrev cX11_heard : ByteArray := prog_1_method_22_code
def yX11_heard : MethodName := ⟨RX11, "heard", "(I)I"⟩
abbrev cX11_read : ByteArray := prog_1_method_23_code
def yX11_read : MethodName := ⟨RX11, "read", "(II)I"⟩
abbrev cX11_duet : ByteArray := prog_1_method_24_code
def yX11_duet : MethodName := ⟨RX11, "duet", "(II)I"⟩
abbrev cX11_best : ByteArray := prog_1_method_25_code
def yX11_best : MethodName := ⟨RX11, "best", "(IIII)I"⟩
abbrev cX11_canon : ByteArray := prog_1_method_26_code
def yX11_canon : MethodName := ⟨RX11, "canon", "(II)I"⟩
abbrev cX11_weighed : ByteArray := prog_1_method_27_code
def yX11_weighed : MethodName := ⟨RX11, "weighed", "(II)I"⟩
abbrev cX11_found : ByteArray := prog_1_method_28_code
def yX11_found : MethodName := ⟨RX11, "found", "(I)I"⟩
abbrev cX11_calls : ByteArray := prog_1_method_29_code
def yX11_calls : MethodName := ⟨RX11, "calls", "(III)I"⟩
abbrev cX11_choir : ByteArray := prog_1_method_30_code
def yX11_choir : MethodName := ⟨RX11, "choir", "(I)I"⟩
abbrev cX11_worlds : ByteArray := prog_1_method_31_code
def yX11_worlds : MethodName := ⟨RX11, "worlds", "(II)I"⟩
abbrev cX11_chord : ByteArray := prog_1_method_32_code
def yX11_chord : MethodName := ⟨RX11, "chord", "(IIIIII)I"⟩
abbrev cX11_undo : ByteArray := prog_1_method_33_code
def yX11_undo : MethodName := ⟨RX11, "undo", "()Z"⟩
abbrev cX11_image : ByteArray := prog_1_method_34_code
def yX11_image : MethodName := ⟨RX11, "image", "(Z)Z"⟩
abbrev cX11_look : ByteArray := prog_1_method_35_code
def yX11_look : MethodName := ⟨RX11, "look", "(I)I"⟩
abbrev cX11_setOfBench : ByteArray := prog_1_method_36_code
def yX11_setOfBench : MethodName := ⟨RX11, "setOfBench", "(II)Z"⟩
abbrev cX11_setOfWitness : ByteArray := prog_1_method_37_code
def yX11_setOfWitness : MethodName := ⟨RX11, "setOfWitness", "(III)Z"⟩
abbrev cX11_adoptMotives : ByteArray := prog_1_method_38_code
def yX11_adoptMotives : MethodName := ⟨RX11, "adoptMotives", "()I"⟩
abbrev cX11_adoptLaw : ByteArray := prog_1_method_39_code
def yX11_adoptLaw : MethodName := ⟨RX11, "adoptLaw", "()I"⟩
abbrev cX11_adoptPlan : ByteArray := prog_1_method_40_code
def yX11_adoptPlan : MethodName := ⟨RX11, "adoptPlan", "()I"⟩
abbrev cX11_keepCourt : ByteArray := prog_1_method_41_code
def yX11_keepCourt : MethodName := ⟨RX11, "keepCourt", "()V"⟩
abbrev cX11_forgetDeeds : ByteArray := prog_1_method_42_code
def yX11_forgetDeeds : MethodName := ⟨RX11, "forgetDeeds", "()V"⟩
abbrev cX11_isWithin : ByteArray := prog_1_method_43_code
def yX11_isWithin : MethodName := ⟨RX11, "isWithin", "(III)Z"⟩
abbrev cX11_isNote : ByteArray := prog_1_method_44_code
def yX11_isNote : MethodName := ⟨RX11, "isNote", "(I)Z"⟩
abbrev cX11_isFact : ByteArray := prog_1_method_45_code
def yX11_isFact : MethodName := ⟨RX11, "isFact", "(I)Z"⟩
abbrev cX11_isValue : ByteArray := prog_1_method_46_code
def yX11_isValue : MethodName := ⟨RX11, "isValue", "(I)Z"⟩
abbrev cX11_held : ByteArray := prog_1_method_47_code
def yX11_held : MethodName := ⟨RX11, "held", "(II)I"⟩
def RX12 : String := "SungEvidenceModel"
def TX12 : u_T := fun k => match k with
  | 0 => ("SungEvidenceModel", "told", "I", false)
  | 1 => ("SungEvidenceModel", "now", "[I", true)
  | 2 => ("SungEvidenceModel", "rows", "[I", true)
  | 3 => ("SungEvidenceModel", "undoable", "I", false)
  | 4 => ("SungEvidenceModel", "witnesses", "I", false)
  | 5 => ("SungEvidenceModel", "low", "[I", true)
  | 6 => ("SungEvidenceModel", "high", "[I", true)
  | 7 => ("SungEvidenceModel", "breath", "[I", true)
  | 8 => ("SungEvidenceModel", "claims", "[I", true)
  | 9 => ("SungEvidenceModel", "soundBut", "I", false)
  | 10 => ("SungEvidenceModel", "needBut", "I", false)
  | 11 => ("SungEvidenceModel", "flatsBut", "I", false)
  | 12 => ("SungEvidenceModel", "tape", "[I", true)
  | 13 => ("SungEvidenceModel", "taped", "I", false)
  | 14 => ("SungEvidenceModel", "spot", "I", false)
  | 15 => ("SungEvidenceModel", "from", "I", false)
  | 16 => ("SungEvidenceModel", "token", "I", false)
  | 17 => ("SungEvidenceModel", "value", "I", false)
  | 18 => ("SungEvidenceModel", "words", "[I", true)
  | 19 => ("SungEvidenceModel", "lineMany", "[I", true)
  | 20 => ("SungEvidenceModel", "lineWord", "[I", true)
  | 21 => ("SungEvidenceModel", "lineFrom", "[I", true)
  | 22 => ("SungEvidenceModel", "lineWhen", "[I", true)
  | 23 => ("SungEvidenceModel", "lineTo", "[I", true)
  | 24 => ("SungEvidenceModel", "op", "[I", true)
  | 25 => ("SungEvidenceModel", "arg", "[I", true)
  | 26 => ("SungEvidenceModel", "which", "I", false)
  | 27 => ("SungEvidenceModel", "codes", "I", false)
  | 28 => ("SungEvidenceModel", "open", "I", false)
  | 29 => ("SungEvidenceModel", "pending", "[I", true)
  | 30 => ("SungEvidenceModel", "pendings", "I", false)
  | 31 => ("SungEvidenceModel", "readFault", "I", false)
  | 32 => ("SungEvidenceModel", "readPlace", "I", false)
  | 33 => ("SungEvidenceModel", "faultKind", "I", false)
  | 34 => ("SungEvidenceModel", "faultPlace", "I", false)
  | 35 => ("SungEvidenceModel", "motiveLines", "I", false)
  | 36 => ("SungEvidenceModel", "motives", "[I", true)
  | 37 => ("SungEvidenceModel", "steps", "[I", true)
  | 38 => ("SungEvidenceModel", "stepMany", "I", false)
  | 39 => ("SungEvidenceModel", "deedMany", "I", false)
  | 40 => ("SungEvidenceModel", "deeds", "[I", true)
  | 41 => ("SungEvidenceModel", "backTo", "[I", true)
  | 42 => ("SungEvidenceModel", "timesLeft", "[I", true)
  | 43 => ("SungEvidenceModel", "asked", "[I", true)
  | 44 => ("SungEvidenceModel", "stack", "[I", true)
  | 45 => ("SungEvidenceModel", "testimonies", "[I", true)
  | 46 => ("SungEvidenceModel", "record", "[I", true)
  | 47 => ("SungEvidenceModel", "book", "[I", true)
  | 48 => ("SungEvidenceModel", "keyMany", "I", false)
  | 49 => ("SungEvidenceModel", "lowestKey", "I", false)
  | 50 => ("SungEvidenceModel", "highestKey", "I", false)
  | 51 => ("SungEvidenceModel", "chances", "[I", true)
  | 52 => ("SungEvidenceModel", "heardMany", "I", false)
  | 53 => ("SungEvidenceModel", "heardNotes", "[I", true)
  | 54 => ("SungEvidenceModel", "inWorlds", "[I", true)
  | 55 => ("SungEvidenceModel", "isTaking", "Z", false)
  | 56 => ("SungEvidenceModel", "hasImage", "Z", false)
  | 57 => ("SungEvidenceModel", "keptAt", "I", false)
  | _ => ("SungEvidenceModel", "images", "[I", true)
def tyX12 : Nat → FieldType := fun k => match k with
  | 0 => .int
  | 1 => .array .int
  | 2 => .array .int
  | 3 => .int
  | 4 => .int
  | 5 => .array .int
  | 6 => .array .int
  | 7 => .array .int
  | 8 => .array .int
  | 9 => .int
  | 10 => .int
  | 11 => .int
  | 12 => .array .int
  | 13 => .int
  | 14 => .int
  | 15 => .int
  | 16 => .int
  | 17 => .int
  | 18 => .array .int
  | 19 => .array .int
  | 20 => .array .int
  | 21 => .array .int
  | 22 => .array .int
  | 23 => .array .int
  | 24 => .array .int
  | 25 => .array .int
  | 26 => .int
  | 27 => .int
  | 28 => .int
  | 29 => .array .int
  | 30 => .int
  | 31 => .int
  | 32 => .int
  | 33 => .int
  | 34 => .int
  | 35 => .int
  | 36 => .array .int
  | 37 => .array .int
  | 38 => .int
  | 39 => .int
  | 40 => .array .int
  | 41 => .array .int
  | 42 => .array .int
  | 43 => .array .int
  | 44 => .array .int
  | 45 => .array .int
  | 46 => .array .int
  | 47 => .array .int
  | 48 => .int
  | 49 => .int
  | 50 => .int
  | 51 => .array .int
  | 52 => .int
  | 53 => .array .int
  | 54 => .array .int
  | 55 => .boolean
  | 56 => .boolean
  | 57 => .int
  | _ => .array .int
abbrev wsX120 : List Cond := u_ws RX12 TX12 59
theorem nmX12 : ∀ a, a < 59 → ∀ b, b < 59 → a ≠ b → (TX12 a).2.1 ≠ (TX12 b).2.1 := by decide +kernel
theorem tyX12_ok : ∀ k, k < 59 → parseFieldDescriptor (TX12 k).2.2.1 = some (tyX12 k) := by decide +kernel
abbrev cX12_init : ByteArray := prog_14_method_1_code
def yX12_init : MethodName := ⟨RX12, "<init>", "()V"⟩
abbrev cX12_isIn : ByteArray := prog_14_method_3_code
def yX12_isIn : MethodName := ⟨RX12, "isIn", "(III)Z"⟩
abbrev cX12_held : ByteArray := prog_14_method_4_code
def yX12_held : MethodName := ⟨RX12, "held", "(III)I"⟩
abbrev cX12_greater : ByteArray := prog_14_method_5_code
def yX12_greater : MethodName := ⟨RX12, "greater", "(II)I"⟩
abbrev cX12_lesser : ByteArray := prog_14_method_6_code
def yX12_lesser : MethodName := ⟨RX12, "lesser", "(II)I"⟩
abbrev cX12_far : ByteArray := prog_14_method_7_code
def yX12_far : MethodName := ⟨RX12, "far", "(II)I"⟩
abbrev cX12_onesOf : ByteArray := prog_14_method_8_code
def yX12_onesOf : MethodName := ⟨RX12, "onesOf", "(I)I"⟩
abbrev cX12_keepsAhead : ByteArray := prog_14_method_9_code
def yX12_keepsAhead : MethodName := ⟨RX12, "keepsAhead", "()V"⟩
abbrev cX12_undo : ByteArray := prog_14_method_10_code
def yX12_undo : MethodName := ⟨RX12, "undo", "()Z"⟩
abbrev cX12_state : ByteArray := prog_14_method_11_code
def yX12_state : MethodName := ⟨RX12, "state", "(I)I"⟩
abbrev cX12_draw : ByteArray := prog_14_method_12_code
def yX12_draw : MethodName := ⟨RX12, "draw", "(I)I"⟩
abbrev cX12_soundNow : ByteArray := prog_14_method_13_code
def yX12_soundNow : MethodName := ⟨RX12, "soundNow", "()I"⟩
abbrev cX12_needNow : ByteArray := prog_14_method_14_code
def yX12_needNow : MethodName := ⟨RX12, "needNow", "()I"⟩
abbrev cX12_flatsNow : ByteArray := prog_14_method_15_code
def yX12_flatsNow : MethodName := ⟨RX12, "flatsNow", "()I"⟩
abbrev cX12_isWitness : ByteArray := prog_14_method_16_code
def yX12_isWitness : MethodName := ⟨RX12, "isWitness", "(I)Z"⟩
abbrev cX12_isFact : ByteArray := prog_14_method_17_code
def yX12_isFact : MethodName := ⟨RX12, "isFact", "(I)Z"⟩
abbrev cX12_nerveOf : ByteArray := prog_14_method_18_code
def yX12_nerveOf : MethodName := ⟨RX12, "nerveOf", "(I)I"⟩
abbrev cX12_nerveBe : ByteArray := prog_14_method_19_code
def yX12_nerveBe : MethodName := ⟨RX12, "nerveBe", "(II)V"⟩
abbrev cX12_claimOf : ByteArray := prog_14_method_20_code
def yX12_claimOf : MethodName := ⟨RX12, "claimOf", "(II)I"⟩
abbrev cX12_witness : ByteArray := prog_14_method_21_code
def yX12_witness : MethodName := ⟨RX12, "witness", "(III)I"⟩
abbrev cX12_claim : ByteArray := prog_14_method_22_code
def yX12_claim : MethodName := ⟨RX12, "claim", "(III)Z"⟩
abbrev cX12_canSet : ByteArray := prog_14_method_23_code
def yX12_canSet : MethodName := ⟨RX12, "canSet", "(III)Z"⟩
abbrev cX12_set : ByteArray := prog_14_method_24_code
def yX12_set : MethodName := ⟨RX12, "set", "(III)Z"⟩
abbrev cX12_types : ByteArray := prog_14_method_25_code
def yX12_types : MethodName := ⟨RX12, "types", "(I)V"⟩
abbrev cX12_feed : ByteArray := prog_14_method_26_code
def yX12_feed : MethodName := ⟨RX12, "feed", "(IIIII)I"⟩
abbrev cX12_end : ByteArray := prog_14_method_27_code
def yX12_end : MethodName := ⟨RX12, "end", "(I)Z"⟩
abbrev cX12_raw : ByteArray := prog_14_method_28_code
def yX12_raw : MethodName := ⟨RX12, "raw", "(I)I"⟩
abbrev cX12_isLetter : ByteArray := prog_14_method_29_code
def yX12_isLetter : MethodName := ⟨RX12, "isLetter", "(I)Z"⟩
abbrev cX12_isDigit : ByteArray := prog_14_method_30_code
def yX12_isDigit : MethodName := ⟨RX12, "isDigit", "(I)Z"⟩
abbrev cX12_isMarkSign : ByteArray := prog_14_method_31_code
def yX12_isMarkSign : MethodName := ⟨RX12, "isMarkSign", "(I)Z"⟩
abbrev cX12_wordAt : ByteArray := prog_14_method_32_code
def yX12_wordAt : MethodName := ⟨RX12, "wordAt", "(II)I"⟩
abbrev cX12_reads : ByteArray := prog_14_method_33_code
def yX12_reads : MethodName := ⟨RX12, "reads", "()V"⟩
abbrev cX12_errs : ByteArray := prog_14_method_34_code
def yX12_errs : MethodName := ⟨RX12, "errs", "(I)I"⟩
abbrev cX12_isWord : ByteArray := prog_14_method_35_code
def yX12_isWord : MethodName := ⟨RX12, "isWord", "(I)Z"⟩
abbrev cX12_isSign : ByteArray := prog_14_method_36_code
def yX12_isSign : MethodName := ⟨RX12, "isSign", "(I)Z"⟩
abbrev cX12_emits : ByteArray := prog_14_method_37_code
def yX12_emits : MethodName := ⟨RX12, "emits", "(II)V"⟩
abbrev cX12_canAsk : ByteArray := prog_14_method_38_code
def yX12_canAsk : MethodName := ⟨RX12, "canAsk", "(I)Z"⟩
abbrev cX12_readUnit : ByteArray := prog_14_method_39_code
def yX12_readUnit : MethodName := ⟨RX12, "readUnit", "()I"⟩
abbrev cX12_readProduct : ByteArray := prog_14_method_40_code
def yX12_readProduct : MethodName := ⟨RX12, "readProduct", "()I"⟩
abbrev cX12_readSum : ByteArray := prog_14_method_41_code
def yX12_readSum : MethodName := ⟨RX12, "readSum", "()I"⟩
abbrev cX12_readCompared : ByteArray := prog_14_method_42_code
def yX12_readCompared : MethodName := ⟨RX12, "readCompared", "()I"⟩
abbrev cX12_waits : ByteArray := prog_14_method_43_code
def yX12_waits : MethodName := ⟨RX12, "waits", "(I)V"⟩
abbrev cX12_settles : ByteArray := prog_14_method_44_code
def yX12_settles : MethodName := ⟨RX12, "settles", "(I)V"⟩
abbrev cX12_readAny : ByteArray := prog_14_method_45_code
def yX12_readAny : MethodName := ⟨RX12, "readAny", "()I"⟩
abbrev cX12_isLineWord : ByteArray := prog_14_method_46_code
def yX12_isLineWord : MethodName := ⟨RX12, "isLineWord", "()Z"⟩
abbrev cX12_readLaw : ByteArray := prog_14_method_47_code
def yX12_readLaw : MethodName := ⟨RX12, "readLaw", "()I"⟩
abbrev cX12_takesLaw : ByteArray := prog_14_method_48_code
def yX12_takesLaw : MethodName := ⟨RX12, "takesLaw", "(I)V"⟩
abbrev cX12_readNumber : ByteArray := prog_14_method_49_code
def yX12_readNumber : MethodName := ⟨RX12, "readNumber", "(II)I"⟩
abbrev cX12_readMark : ByteArray := prog_14_method_50_code
def yX12_readMark : MethodName := ⟨RX12, "readMark", "(I)I"⟩
abbrev cX12_readTold : ByteArray := prog_14_method_51_code
def yX12_readTold : MethodName := ⟨RX12, "readTold", "(III)I"⟩
abbrev cX12_readStep : ByteArray := prog_14_method_52_code
def yX12_readStep : MethodName := ⟨RX12, "readStep", "(I)I"⟩
abbrev cX12_readMotive : ByteArray := prog_14_method_53_code
def yX12_readMotive : MethodName := ⟨RX12, "readMotive", "()I"⟩
abbrev cX12_readMotives : ByteArray := prog_14_method_54_code
def yX12_readMotives : MethodName := ⟨RX12, "readMotives", "()I"⟩
abbrev cX12_emitsStep : ByteArray := prog_14_method_55_code
def yX12_emitsStep : MethodName := ⟨RX12, "emitsStep", "(IIII)V"⟩
abbrev cX12_readCall : ByteArray := prog_14_method_56_code
def yX12_readCall : MethodName := ⟨RX12, "readCall", "()I"⟩
abbrev cX12_readCross : ByteArray := prog_14_method_57_code
def yX12_readCross : MethodName := ⟨RX12, "readCross", "()I"⟩
abbrev cX12_readAgain : ByteArray := prog_14_method_58_code
def yX12_readAgain : MethodName := ⟨RX12, "readAgain", "()I"⟩
abbrev cX12_readOther : ByteArray := prog_14_method_59_code
def yX12_readOther : MethodName := ⟨RX12, "readOther", "()I"⟩
abbrev cX12_readSteps : ByteArray := prog_14_method_60_code
def yX12_readSteps : MethodName := ⟨RX12, "readSteps", "()I"⟩
abbrev cX12_laysDeeds : ByteArray := prog_14_method_61_code
def yX12_laysDeeds : MethodName := ⟨RX12, "laysDeeds", "()I"⟩
abbrev cX12_readsText : ByteArray := prog_14_method_62_code
def yX12_readsText : MethodName := ⟨RX12, "readsText", "(I)I"⟩
abbrev cX12_takesOther : ByteArray := prog_14_method_63_code
def yX12_takesOther : MethodName := ⟨RX12, "takesOther", "(II)V"⟩
abbrev cX12_text : ByteArray := prog_14_method_64_code
def yX12_text : MethodName := ⟨RX12, "text", "(I)I"⟩
abbrev cX12_fault : ByteArray := prog_14_method_65_code
def yX12_fault : MethodName := ⟨RX12, "fault", "(I)I"⟩
abbrev cX12_twoOf : ByteArray := prog_14_method_66_code
def yX12_twoOf : MethodName := ⟨RX12, "twoOf", "(III)I"⟩
abbrev cX12_runs : ByteArray := prog_14_method_67_code
def yX12_runs : MethodName := ⟨RX12, "runs", "(III)I"⟩
abbrev cX12_lineOf : ByteArray := prog_14_method_68_code
def yX12_lineOf : MethodName := ⟨RX12, "lineOf", "(I)I"⟩
abbrev cX12_ofTestimony : ByteArray := prog_14_method_69_code
def yX12_ofTestimony : MethodName := ⟨RX12, "ofTestimony", "(II)I"⟩
abbrev cX12_isTestimony : ByteArray := prog_14_method_70_code
def yX12_isTestimony : MethodName := ⟨RX12, "isTestimony", "(I)Z"⟩
abbrev cX12_isStruck : ByteArray := prog_14_method_71_code
def yX12_isStruck : MethodName := ⟨RX12, "isStruck", "(I)Z"⟩
abbrev cX12_sungBy : ByteArray := prog_14_method_72_code
def yX12_sungBy : MethodName := ⟨RX12, "sungBy", "(I)I"⟩
abbrev cX12_notes : ByteArray := prog_14_method_73_code
def yX12_notes : MethodName := ⟨RX12, "notes", "(IIII)V"⟩
abbrev cX12_asks : ByteArray := prog_14_method_74_code
def yX12_asks : MethodName := ⟨RX12, "asks", "(IIII)V"⟩
abbrev cX12_lawTells : ByteArray := prog_14_method_75_code
def yX12_lawTells : MethodName := ⟨RX12, "lawTells", "(III)I"⟩
abbrev cX12_slipOf : ByteArray := prog_14_method_76_code
def yX12_slipOf : MethodName := ⟨RX12, "slipOf", "(IIIII)I"⟩
abbrev cX12_shakeOf : ByteArray := prog_14_method_77_code
def yX12_shakeOf : MethodName := ⟨RX12, "shakeOf", "(III)I"⟩
abbrev cX12_weighOf : ByteArray := prog_14_method_78_code
def yX12_weighOf : MethodName := ⟨RX12, "weighOf", "(IIII)I"⟩
abbrev cX12_notesOf : ByteArray := prog_14_method_79_code
def yX12_notesOf : MethodName := ⟨RX12, "notesOf", "(I)I"⟩
abbrev cX12_stepOf : ByteArray := prog_14_method_80_code
def yX12_stepOf : MethodName := ⟨RX12, "stepOf", "(II)I"⟩
abbrev cX12_aboveOf : ByteArray := prog_14_method_81_code
def yX12_aboveOf : MethodName := ⟨RX12, "aboveOf", "(II)I"⟩
abbrev cX12_canSing : ByteArray := prog_14_method_82_code
def yX12_canSing : MethodName := ⟨RX12, "canSing", "(IIII)Z"⟩
abbrev cX12_motiveOf : ByteArray := prog_14_method_83_code
def yX12_motiveOf : MethodName := ⟨RX12, "motiveOf", "(II)I"⟩
abbrev cX12_isSung : ByteArray := prog_14_method_84_code
def yX12_isSung : MethodName := ⟨RX12, "isSung", "(III)Z"⟩
abbrev cX12_barsFor : ByteArray := prog_14_method_85_code
def yX12_barsFor : MethodName := ⟨RX12, "barsFor", "(II)I"⟩
abbrev cX12_canCall : ByteArray := prog_14_method_86_code
def yX12_canCall : MethodName := ⟨RX12, "canCall", "(III)Z"⟩
abbrev cX12_bars : ByteArray := prog_14_method_87_code
def yX12_bars : MethodName := ⟨RX12, "bars", "(I)V"⟩
abbrev cX12_sings : ByteArray := prog_14_method_88_code
def yX12_sings : MethodName := ⟨RX12, "sings", "(III)I"⟩
abbrev cX12_crosses : ByteArray := prog_14_method_89_code
def yX12_crosses : MethodName := ⟨RX12, "crosses", "(I)I"⟩
abbrev cX12_hoarseMany : ByteArray := prog_14_method_90_code
def yX12_hoarseMany : MethodName := ⟨RX12, "hoarseMany", "()I"⟩
abbrev cX12_restsDay : ByteArray := prog_14_method_91_code
def yX12_restsDay : MethodName := ⟨RX12, "restsDay", "()V"⟩
abbrev cX12_call : ByteArray := prog_14_method_92_code
def yX12_call : MethodName := ⟨RX12, "call", "(III)I"⟩
abbrev cX12_cross : ByteArray := prog_14_method_93_code
def yX12_cross : MethodName := ⟨RX12, "cross", "(I)I"⟩
abbrev cX12_strike : ByteArray := prog_14_method_94_code
def yX12_strike : MethodName := ⟨RX12, "strike", "(I)Z"⟩
abbrev cX12_days : ByteArray := prog_14_method_95_code
def yX12_days : MethodName := ⟨RX12, "days", "(I)I"⟩
abbrev cX12_ofDeed : ByteArray := prog_14_method_96_code
def yX12_ofDeed : MethodName := ⟨RX12, "ofDeed", "(II)I"⟩
abbrev cX12_restsOfTrial : ByteArray := prog_14_method_97_code
def yX12_restsOfTrial : MethodName := ⟨RX12, "restsOfTrial", "()I"⟩
abbrev cX12_isDone : ByteArray := prog_14_method_98_code
def yX12_isDone : MethodName := ⟨RX12, "isDone", "(I)Z"⟩
abbrev cX12_trial : ByteArray := prog_14_method_99_code
def yX12_trial : MethodName := ⟨RX12, "trial", "()I"⟩
abbrev cX12_of : ByteArray := prog_14_method_100_code
def yX12_of : MethodName := ⟨RX12, "of", "(II)I"⟩
abbrev cX12_testimony : ByteArray := prog_14_method_101_code
def yX12_testimony : MethodName := ⟨RX12, "testimony", "(II)I"⟩
abbrev cX12_bar : ByteArray := prog_14_method_102_code
def yX12_bar : MethodName := ⟨RX12, "bar", "(I)I"⟩
abbrev cX12_motive : ByteArray := prog_14_method_103_code
def yX12_motive : MethodName := ⟨RX12, "motive", "(II)I"⟩
abbrev cX12_book : ByteArray := prog_14_method_104_code
def yX12_book : MethodName := ⟨RX12, "book", "(II)I"⟩
abbrev cX12_findsKeys : ByteArray := prog_14_method_105_code
def yX12_findsKeys : MethodName := ⟨RX12, "findsKeys", "(II)V"⟩
abbrev cX12_keys : ByteArray := prog_14_method_106_code
def yX12_keys : MethodName := ⟨RX12, "keys", "(III)I"⟩
abbrev cX12_fair : ByteArray := prog_14_method_107_code
def yX12_fair : MethodName := ⟨RX12, "fair", "(IIII)I"⟩
abbrev cX12_heard : ByteArray := prog_14_method_108_code
def yX12_heard : MethodName := ⟨RX12, "heard", "(I)I"⟩
abbrev cX12_unlikeTo : ByteArray := prog_14_method_109_code
def yX12_unlikeTo : MethodName := ⟨RX12, "unlikeTo", "(I)I"⟩
abbrev cX12_read : ByteArray := prog_14_method_110_code
def yX12_read : MethodName := ⟨RX12, "read", "(II)I"⟩
abbrev cX12_doSound : ByteArray := prog_14_method_111_code
def yX12_doSound : MethodName := ⟨RX12, "doSound", "(II)Z"⟩
abbrev cX12_duet : ByteArray := prog_14_method_112_code
def yX12_duet : MethodName := ⟨RX12, "duet", "(II)I"⟩
abbrev cX12_soundsWith : ByteArray := prog_14_method_113_code
def yX12_soundsWith : MethodName := ⟨RX12, "soundsWith", "(III)I"⟩
abbrev cX12_best : ByteArray := prog_14_method_114_code
def yX12_best : MethodName := ⟨RX12, "best", "(IIII)I"⟩
abbrev cX12_canon : ByteArray := prog_14_method_115_code
def yX12_canon : MethodName := ⟨RX12, "canon", "(II)I"⟩
abbrev cX12_weighedFor : ByteArray := prog_14_method_116_code
def yX12_weighedFor : MethodName := ⟨RX12, "weighedFor", "(II)I"⟩
abbrev cX12_isFoundWith : ByteArray := prog_14_method_117_code
def yX12_isFoundWith : MethodName := ⟨RX12, "isFoundWith", "(III)Z"⟩
abbrev cX12_weighed : ByteArray := prog_14_method_118_code
def yX12_weighed : MethodName := ⟨RX12, "weighed", "(II)I"⟩
abbrev cX12_found : ByteArray := prog_14_method_119_code
def yX12_found : MethodName := ⟨RX12, "found", "(I)I"⟩
abbrev cX12_singersFor : ByteArray := prog_14_method_120_code
def yX12_singersFor : MethodName := ⟨RX12, "singersFor", "(II)I"⟩
abbrev cX12_calls : ByteArray := prog_14_method_121_code
def yX12_calls : MethodName := ⟨RX12, "calls", "(III)I"⟩
abbrev cX12_doAgree : ByteArray := prog_14_method_122_code
def yX12_doAgree : MethodName := ⟨RX12, "doAgree", "(II)Z"⟩
abbrev cX12_isChoir : ByteArray := prog_14_method_123_code
def yX12_isChoir : MethodName := ⟨RX12, "isChoir", "(I)Z"⟩
abbrev cX12_choir : ByteArray := prog_14_method_124_code
def yX12_choir : MethodName := ⟨RX12, "choir", "(I)I"⟩
abbrev cX12_valueIn : ByteArray := prog_14_method_125_code
def yX12_valueIn : MethodName := ⟨RX12, "valueIn", "(II)I"⟩
abbrev cX12_liarsIn : ByteArray := prog_14_method_126_code
def yX12_liarsIn : MethodName := ⟨RX12, "liarsIn", "(I)I"⟩
abbrev cX12_findsWorlds : ByteArray := prog_14_method_127_code
def yX12_findsWorlds : MethodName := ⟨RX12, "findsWorlds", "(I)I"⟩
abbrev cX12_mostIn : ByteArray := prog_14_method_128_code
def yX12_mostIn : MethodName := ⟨RX12, "mostIn", "(I)I"⟩
abbrev cX12_worlds : ByteArray := prog_14_method_129_code
def yX12_worlds : MethodName := ⟨RX12, "worlds", "(II)I"⟩
abbrev cX12_isUnlike : ByteArray := prog_14_method_130_code
def yX12_isUnlike : MethodName := ⟨RX12, "isUnlike", "(IIII)Z"⟩
abbrev cX12_areWitnesses : ByteArray := prog_14_method_131_code
def yX12_areWitnesses : MethodName := ⟨RX12, "areWitnesses", "(IIII)Z"⟩
abbrev cX12_chord : ByteArray := prog_14_method_132_code
def yX12_chord : MethodName := ⟨RX12, "chord", "(IIIIII)I"⟩
abbrev cX12_keeps : ByteArray := prog_14_method_133_code
def yX12_keeps : MethodName := ⟨RX12, "keeps", "(I)I"⟩
abbrev cX12_keepsLaw : ByteArray := prog_14_method_134_code
def yX12_keepsLaw : MethodName := ⟨RX12, "keepsLaw", "()V"⟩
abbrev cX12_keepsTold : ByteArray := prog_14_method_135_code
def yX12_keepsTold : MethodName := ⟨RX12, "keepsTold", "()V"⟩
abbrev cX12_image : ByteArray := prog_14_method_136_code
def yX12_image : MethodName := ⟨RX12, "image", "(Z)Z"⟩
abbrev cX12_look : ByteArray := prog_14_method_137_code
def yX12_look : MethodName := ⟨RX12, "look", "(I)I"⟩
def RJ6 : String := "java/lang/Integer"
def TJ6 : u_T := fun k => match k with
  | _ => ("", "", "", false)
def tyJ6 : Nat → FieldType := fun k => match k with
  | _ => .int
abbrev wsJ60 : List Cond := u_ws RJ6 TJ6 0
theorem nmJ6 : ∀ a, a < 0 → ∀ b, b < 0 → a ≠ b → (TJ6 a).2.1 ≠ (TJ6 b).2.1 := by decide +kernel
theorem tyJ6_ok : ∀ k, k < 0 → parseFieldDescriptor (TJ6 k).2.2.1 = some (tyJ6 k) := by decide +kernel
abbrev cJ6_bitCount_0f7a4 : ByteArray := prog_15_method_49_code
def yJ6_bitCount_0f7a4 : MethodName := ⟨RJ6, "bitCount", "(I)I"⟩
def RJ13 : String := "java/lang/Long"
def TJ13 : u_T := fun k => match k with
  | _ => ("", "", "", false)
def tyJ13 : Nat → FieldType := fun k => match k with
  | _ => .int
abbrev wsJ130 : List Cond := u_ws RJ13 TJ13 0
theorem nmJ13 : ∀ a, a < 0 → ∀ b, b < 0 → a ≠ b → (TJ13 a).2.1 ≠ (TJ13 b).2.1 := by decide +kernel
theorem tyJ13_ok : ∀ k, k < 0 → parseFieldDescriptor (TJ13 k).2.2.1 = some (tyJ13 k) := by decide +kernel
abbrev cJ13_bitCount_95d88 : ByteArray := prog_16_method_50_code
def yJ13_bitCount_95d88 : MethodName := ⟨RJ13, "bitCount", "(J)I"⟩
def RJ9 : String := "java/lang/Math"
def TJ9 : u_T := fun k => match k with
  | _ => ("", "", "", false)
def tyJ9 : Nat → FieldType := fun k => match k with
  | _ => .int
abbrev wsJ90 : List Cond := u_ws RJ9 TJ9 0
theorem nmJ9 : ∀ a, a < 0 → ∀ b, b < 0 → a ≠ b → (TJ9 a).2.1 ≠ (TJ9 b).2.1 := by decide +kernel
theorem tyJ9_ok : ∀ k, k < 0 → parseFieldDescriptor (TJ9 k).2.2.1 = some (tyJ9 k) := by decide +kernel
abbrev cJ9_abs_0f7a4 : ByteArray := prog_17_method_59_code
def yJ9_abs_0f7a4 : MethodName := ⟨RJ9, "abs", "(I)I"⟩
abbrev cJ9_max_7cf53 : ByteArray := prog_17_method_65_code
def yJ9_max_7cf53 : MethodName := ⟨RJ9, "max", "(II)I"⟩
abbrev cJ9_min_7cf53 : ByteArray := prog_17_method_69_code
def yJ9_min_7cf53 : MethodName := ⟨RJ9, "min", "(II)I"⟩
def RJ0 : String := "java/lang/String"
def TJ0 : u_T := fun k => match k with
  | _ => ("", "", "", false)
def tyJ0 : Nat → FieldType := fun k => match k with
  | _ => .int
abbrev wsJ00 : List Cond := u_ws RJ0 TJ0 0
theorem nmJ0 : ∀ a, a < 0 → ∀ b, b < 0 → a ≠ b → (TJ0 a).2.1 ≠ (TJ0 b).2.1 := by decide +kernel
theorem tyJ0_ok : ∀ k, k < 0 → parseFieldDescriptor (TJ0 k).2.2.1 = some (tyJ0 k) := by decide +kernel
abbrev cJ0_length_8abf5 : ByteArray := prog_18_method_54_code
def yJ0_length_8abf5 : MethodName := ⟨RJ0, "length", "()I"⟩
abbrev cJ0_charAt_5068e : ByteArray := prog_18_method_56_code
def yJ0_charAt_5068e : MethodName := ⟨RJ0, "charAt", "(I)C"⟩
abbrev cJ0_coder_7d493 : ByteArray := prog_18_method_152_code
def yJ0_coder_7d493 : MethodName := ⟨RJ0, "coder", "()B"⟩
abbrev cJ0_isLatin1_aae02 : ByteArray := prog_18_method_154_code
def yJ0_isLatin1_aae02 : MethodName := ⟨RJ0, "isLatin1", "()Z"⟩
abbrev cJ0_checkIndex_df160 : ByteArray := prog_18_method_155_code
def yJ0_checkIndex_df160 : MethodName := ⟨RJ0, "checkIndex", "(II)V"⟩
def RJ1 : String := "java/lang/StringLatin1"
def TJ1 : u_T := fun k => match k with
  | _ => ("", "", "", false)
def tyJ1 : Nat → FieldType := fun k => match k with
  | _ => .int
abbrev wsJ10 : List Cond := u_ws RJ1 TJ1 0
theorem nmJ1 : ∀ a, a < 0 → ∀ b, b < 0 → a ≠ b → (TJ1 a).2.1 ≠ (TJ1 b).2.1 := by decide +kernel
theorem tyJ1_ok : ∀ k, k < 0 → parseFieldDescriptor (TJ1 k).2.2.1 = some (tyJ1 k) := by decide +kernel
abbrev cJ1_charAt_3b067 : ByteArray := prog_19_method_2_code
def yJ1_charAt_3b067 : MethodName := ⟨RJ1, "charAt", "([BI)C"⟩
def RJ2 : String := "java/lang/StringUTF16"
def TJ2 : u_T := fun k => match k with
  | _ => ("", "", "", false)
def tyJ2 : Nat → FieldType := fun k => match k with
  | _ => .int
abbrev wsJ20 : List Cond := u_ws RJ2 TJ2 0
theorem nmJ2 : ∀ a, a < 0 → ∀ b, b < 0 → a ≠ b → (TJ2 a).2.1 ≠ (TJ2 b).2.1 := by decide +kernel
theorem tyJ2_ok : ∀ k, k < 0 → parseFieldDescriptor (TJ2 k).2.2.1 = some (tyJ2 k) := by decide +kernel
abbrev cJ2_getChar_3b067 : ByteArray := prog_20_method_5_code
def yJ2_getChar_3b067 : MethodName := ⟨RJ2, "getChar", "([BI)C"⟩
abbrev cJ2_length_9d52b : ByteArray := prog_20_method_6_code
def yJ2_length_9d52b : MethodName := ⟨RJ2, "length", "([B)I"⟩
abbrev cJ2_charAt_3b067 : ByteArray := prog_20_method_83_code
def yJ2_charAt_3b067 : MethodName := ⟨RJ2, "charAt", "([BI)C"⟩
abbrev cJ2_checkIndex_2214a : ByteArray := prog_20_method_91_code
def yJ2_checkIndex_2214a : MethodName := ⟨RJ2, "checkIndex", "(I[B)V"⟩
def RJ10 : String := "java/lang/System"
def TJ10 : u_T := fun k => match k with
  | _ => ("", "", "", false)
def tyJ10 : Nat → FieldType := fun k => match k with
  | _ => .int
abbrev wsJ100 : List Cond := u_ws RJ10 TJ10 0
theorem nmJ10 : ∀ a, a < 0 → ∀ b, b < 0 → a ≠ b → (TJ10 a).2.1 ≠ (TJ10 b).2.1 := by decide +kernel
theorem tyJ10_ok : ∀ k, k < 0 → parseFieldDescriptor (TJ10 k).2.2.1 = some (tyJ10 k) := by decide +kernel
def RJ3 : String := "jdk/internal/util/Preconditions"
def TJ3 : u_T := fun k => match k with
  | _ => ("", "", "", false)
def tyJ3 : Nat → FieldType := fun k => match k with
  | _ => .int
abbrev wsJ30 : List Cond := u_ws RJ3 TJ3 0
theorem nmJ3 : ∀ a, a < 0 → ∀ b, b < 0 → a ≠ b → (TJ3 a).2.1 ≠ (TJ3 b).2.1 := by decide +kernel
theorem tyJ3_ok : ∀ k, k < 0 → parseFieldDescriptor (TJ3 k).2.2.1 = some (tyJ3 k) := by decide +kernel
abbrev cJ3_checkIndex_8e157 : ByteArray := prog_22_method_11_code
def yJ3_checkIndex_8e157 : MethodName := ⟨RJ3, "checkIndex", "(IILjava/util/function/BiFunction;)I"⟩
def RL : String := "SungEvidenceLaw"
abbrev cL_law : ByteArray := code
def yL_law : MethodName := ⟨RL, "law", "([I)Z"⟩
end
section
/-! ===== the machine of fixed cells: behind the constructors no cell is made and no reference changes; ints as Int, memory by cell and place ===== -/
abbrev jm_S : Type := Nat ⊕ Nat ⊕ List Nat ⊕ (Nat × List (Option Nat))
abbrev jm_M : Type := (Nat → Int → Int) × (Nat → Int → Int64)
abbrev jm_I : Type := MethodName × ByteArray × Nat × Option FieldType
abbrev jm_G : Type := List jm_S × va_G × (Nat → Nat) × (ClassId × ClassId × ClassId) × (State → Prop)
def jm_i (z : Int) : Value := .int (Int32.ofInt z)
def jm_rg (z : Int) : Prop := -2147483648 ≤ z ∧ z < 2147483648
def jm_tv (g : jm_G) : Value → Value
  | .ref k => .ref (g.2.2.1 k)
  | v => v
def jm_lq (g : jm_G) (q : Nat × Value) : Nat × Value := (q.1, jm_tv g q.2)
def jm_fv (g : jm_G) (mu : jm_M) (k : Nat) (j : Nat) (f : Option Nat) : Value := match f with
  | none => jm_i (mu.1 k j)
  | some r => .ref (g.2.2.1 r)
def jm_el (g : jm_G) (mu : jm_M) (k : Nat) (sh : jm_S) : va_E := match sh with
  | .inl n => .inl (g.2.2.2.1.1, n, .inl (fun j => Int32.ofInt (mu.1 k j)))
  | .inr (.inl n) => .inl (g.2.2.2.1.2.1, n, .inr (.inl (fun j => mu.2 k j)))
  | .inr (.inr (.inl rs)) => .inl (g.2.2.2.1.2.2, rs.length, .inr (.inr (.inr (.inr (fun j => (rs[j]?).map g.2.2.1)))))
  | .inr (.inr (.inr o)) => .inr (o.1, o.2.mapIdx (jm_fv g mu k))
def jm_w (g : jm_G) (mu : jm_M) : va_W := g.1.mapIdx (fun k sh => (g.2.2.1 k, jm_el g mu k sh))
def jm_A (g : jm_G) : Nat → Prop := fun q => ∃ k, k < g.1.length ∧ q = g.2.2.1 k
def jm_ty (g : jm_G) : List (ClassId × FieldType) := [(g.2.2.2.1.1, .int), (g.2.2.2.1.2.1, .long), (g.2.2.2.1.2.2, .object "SungEvidence$Court")]
def jm_ok (g : jm_G) : Prop := (∀ i j, i < g.1.length → j < g.1.length → g.2.2.1 i = g.2.2.1 j → i = j) ∧ ∀ s t : State, g.2.2.2.2 s → s.WarmedH t.vm → va_F (jm_A g) s t → g.2.2.2.2 t
def jm_T : List Cond := lw_tbl.filter goodWord
def jm_ws (i : jm_I) : List Cond := .code i.1 i.2.1 i.2.2.1 i.2.2.2 :: jm_T
def jm_cl : List vw_C := [(RX0, TX0, 3), (RX1, TX1, 10), (RX2, TX2, 3), (RX3, TX3, 8), (RX4, TX4, 2), (RX5, TX5, 3), (RX6, TX6, 8), (RX7, TX7, 9), (RX8, TX8, 13), (RX9, TX9, 7), (RX10, TX10, 5), (RX11, TX11, 17), (RX12, TX12, 59)]
def jm_rm (d : Nat) : Room := { frames := d, cells := 0, slots := 0, locals := 40 * d }
def jm_mr (mu : jm_M) : Prop := ∀ (c : Nat) (i : Int), jm_rg (mu.1 c i)
def jm_B (g : jm_G) (mu : jm_M) (U : State) : Prop := va_K g.2.1 jm_cl (jm_ty g) U ∧ va_P g.2.1 jm_cl (jm_w g mu) U.heap ∧ jm_ok g ∧ g.2.2.2.2 U ∧ jm_mr mu
def jm_Q (g : jm_G) (Q : Option Value → jm_M → Prop) : Array Value → State → Outcome → State → Prop := fun _ st oc t => (∃ (r : Option Value) (mu : jm_M), oc = .returned (r.map (jm_tv g)) ∧ Q r mu ∧ va_P g.2.1 jm_cl (jm_w g mu) t.heap ∧ jm_mr mu) ∧ va_F (jm_A g) st t
def jm_C (p : Program) (m : MethodId) (c : Code) (i : jm_I) (s : State) (args : Array Value) (meth : Method) (g : jm_G) : Prop := CallFix p m c i.2.1 i.2.2.1 s args (jm_ws i) i.1.cls ∧ meth.sig.returnType = i.2.2.2 ∧ meth.locks = false ∧ va_K g.2.1 jm_cl (jm_ty g) s ∧ jm_ok g ∧ g.2.2.2.2 s
/-- from here, at depth d, in method i, the machine comes to the method's end with Q -/
def jm_V (l : Launch) (g : jm_G) (d : Nat) (i : jm_I) (pc : Nat) (lv : List (Nat × Value)) (st : List Value) (mu : jm_M) (Q : Option Value → jm_M → Prop) : Prop :=
  ∀ (p : Program) (e : Env) (s : State) (m : MethodId) (args : Array Value) (below : List Frame) (meth : Method) (c : Code) (ls : Array Slot) (H : Heap) (locs : List Loc),
    jm_C p m c i s args meth g → lv_has ls i.2.2.1 (lv.map (jm_lq g)) → va_P g.2.1 jm_cl (jm_w g mu) H → va_S (jm_A g) s.heap H locs → jm_mr mu →
    W p l e (jm_rm d) s m args below meth c H locs 0 0 (MQ below (jm_Q g Q) args s 0 0 (jm_A g)) (F0 m pc ls (st.map (jm_tv g)))
/-- calling method i with these arguments ends with Q, in d frames -/
def jm_R (l : Launch) (g : jm_G) (d : Nat) (i : jm_I) (As : List Value) (mu : jm_M) (Q : Option Value → jm_M → Prop) : Prop :=
  ∃ d0, d0 ≤ d ∧ Met l i.1 (jm_ws i) (jm_rm d0) (va_Pc (As.map (jm_tv g)) (jm_B g mu)) (jm_Q g Q) 0 0 (jm_A g)
def jm_qi (Q : Int → jm_M → Prop) : Option Value → jm_M → Prop := fun r mu => ∃ z, r = some (jm_i z) ∧ jm_rg z ∧ Q z mu
def jm_ql (Q : Int64 → jm_M → Prop) : Option Value → jm_M → Prop := fun r mu => ∃ z, r = some (.long z) ∧ Q z mu
def jm_qv (Q : jm_M → Prop) : Option Value → jm_M → Prop := fun r mu => r = none ∧ Q mu
def jm_wr (mu : jm_M) (c : Nat) (i : Int) (x : Int) : jm_M := (fun a b => if a = c ∧ b = i then x else mu.1 a b, mu.2)
def jm_wl (mu : jm_M) (c : Nat) (i : Int) (x : Int64) : jm_M := (mu.1, fun a b => if a = c ∧ b = i then x else mu.2 a b)
def jm_cp (mu : jm_M) (a : Nat) (sp : Int) (b : Nat) (dp n : Int) : jm_M := (fun c i => if c = b ∧ dp ≤ i ∧ i < dp + n then mu.1 a (sp + (i - dp)) else mu.1 c i, mu.2)
theorem jm_ti {z : Int} (h : jm_rg z) : (Int32.ofInt z).toInt = z := by
  obtain ⟨h1, h2⟩ := h
  exact Int32.toInt_ofInt_of_le (by omega) (by omega)
theorem jm_rgT (x : Int32) : jm_rg x.toInt := by
  have h1 := x.le_toInt
  have h2 := x.toInt_lt
  exact ⟨by omega, by omega⟩
theorem jm_iT (x : Int32) : jm_i x.toInt = .int x := by
  unfold jm_i
  rw [Int32.ofInt_toInt]
theorem jm_tn {z : Int} (h0 : 0 ≤ z) (h1 : z < 2147483648) : ((Int32.ofInt z).toNatClampNeg : Int) = z := by
  show (((Int32.ofInt z).toInt.toNat : Nat) : Int) = z
  rw [jm_ti ⟨by omega, h1⟩]
  omega
theorem jm_in {z : Int} {n : Nat} (h0 : 0 ≤ z) (h1 : z < n) (hn : n ≤ 2147483648) : vp_in (Int32.ofInt z) n := by
  intro h
  have h2 := jm_tn h0 (by omega)
  rcases h with h | h
  · have h3 := Int32.lt_iff_toInt_lt.mp h
    rw [jm_ti ⟨by omega, by omega⟩] at h3
    simp at h3
    omega
  · omega
theorem jm_wa {g : jm_G} {mu : jm_M} {k : Nat} {sh : jm_S} (h : g.1[k]? = some sh) : (jm_w g mu)[k]? = some (g.2.2.1 k, jm_el g mu k sh) := by
  unfold jm_w
  rw [List.getElem?_mapIdx, h]
  rfl
theorem jm_wd {g : jm_G} {mu : jm_M} (h : jm_ok g) : va_D (jm_A g) (jm_w g mu) := by
  have key : ∀ (k : Nat) (q : Nat × va_E), (jm_w g mu)[k]? = some q → k < g.1.length ∧ q.1 = g.2.2.1 k := by
    intro k q hk
    unfold jm_w at hk
    rw [List.getElem?_mapIdx] at hk
    cases hs : g.1[k]? with
    | none => rw [hs] at hk; cases hk
    | some sh =>
      rw [hs] at hk
      cases hk
      exact ⟨(List.getElem?_eq_some_iff.mp hs).1, rfl⟩
  refine ⟨fun i j x y hi hj hxy => ?_, fun k q hk => ?_⟩
  · obtain ⟨h1, h2⟩ := key i x hi
    obtain ⟨h3, h4⟩ := key j y hj
    exact h.1 i j h1 h3 (by rw [← h2, ← h4]; exact hxy)
  · obtain ⟨h1, h2⟩ := key k q hk
    exact ⟨k, h1, h2⟩
/-- a world with one cell changed -/
theorem jm_ws1 {g : jm_G} {mu mu' : jm_M} {k : Nat} {sh : jm_S} {e : va_E} (h : g.1[k]? = some sh) (he : jm_el g mu' k sh = e) (ho : ∀ (j : Nat) (s : jm_S), j ≠ k → g.1[j]? = some s → jm_el g mu' j s = jm_el g mu j s) : (jm_w g mu).set k (g.2.2.1 k, e) = jm_w g mu' := by
  apply List.ext_getElem?
  intro j
  have hl : k < (jm_w g mu).length := by
    unfold jm_w
    rw [List.length_mapIdx]
    exact (List.getElem?_eq_some_iff.mp h).1
  by_cases hj : j = k
  · subst hj
    rw [List.getElem?_set_self hl, jm_wa h, he]
  · rw [List.getElem?_set_ne (fun q => hj q.symm)]
    unfold jm_w
    rw [List.getElem?_mapIdx, List.getElem?_mapIdx]
    cases hs : g.1[j]? with
    | none => rfl
    | some s =>
      show some (g.2.2.1 j, jm_el g mu j s) = some (g.2.2.1 j, jm_el g mu' j s)
      rw [ho j s hj hs]
theorem jm_oth {g : jm_G} {mu : jm_M} {k : Nat} {i : Int} {x : Int} (j : Nat) (s : jm_S) (hj : j ≠ k) : jm_el g (jm_wr mu k i x) j s = jm_el g mu j s := by
  have h : ∀ b : Int, (jm_wr mu k i x).1 j b = mu.1 j b := fun b => by simp [jm_wr, hj]
  rcases s with n | n | rs | o
  · simp only [jm_el, h]
  · rfl
  · rfl
  · have h2 : jm_fv g (jm_wr mu k i x) j = jm_fv g mu j := by
      funext q f
      cases f with
      | none => simp only [jm_fv, h]
      | some r => rfl
    simp only [jm_el, h2]
theorem jm_pick {g : jm_G} {lv : List (Nat × Value)} (ks : List Nat) : lv_pick (lv.map (jm_lq g)) ks = (lv_pick lv ks).map (jm_lq g) := by
  induction ks with
  | nil => rfl
  | cons a t ih =>
    simp only [lv_pick, List.filterMap_cons, List.getElem?_map] at ih ⊢
    cases lv[a]? <;> simp [ih]
theorem jm_cat (g : jm_G) (v : Value) : (jm_tv g v).category = v.category := by cases v <;> rfl
theorem jm_filt1 {g : jm_G} {lv : List (Nat × Value)} (i : Nat) : (lv.map (jm_lq g)).filter (fun q => !(q.1 == i) && !(q.1 + 1 == i && q.2.category == 2)) = (lv.filter (fun q => !(q.1 == i) && !(q.1 + 1 == i && q.2.category == 2))).map (jm_lq g) := by
  rw [List.filter_map]
  congr 1
  apply List.filter_congr
  intro q _
  simp [jm_lq, jm_cat]
theorem jm_filt2 {g : jm_G} {lv : List (Nat × Value)} (i : Nat) : (lv.map (jm_lq g)).filter (fun q => !(q.1 == i) && (!(q.1 == i + 1) && !(q.1 + 1 == i && q.2.category == 2))) = (lv.filter (fun q => !(q.1 == i) && (!(q.1 == i + 1) && !(q.1 + 1 == i && q.2.category == 2)))).map (jm_lq g) := by
  rw [List.filter_map]
  congr 1
  apply List.filter_congr
  intro q _
  simp [jm_lq, jm_cat]
theorem jm_R.up {l : Launch} {g : jm_G} {d d' : Nat} {i : jm_I} {As : List Value} {mu : jm_M} {Q : Option Value → jm_M → Prop} (h : jm_R l g d i As mu Q) (hd : d ≤ d') : jm_R l g d' i As mu Q := by
  obtain ⟨d0, h1, h2⟩ := h
  exact ⟨d0, by omega, h2⟩
end
section
section JR
variable {l : Launch} {g : jm_G} {d : Nat} {i : jm_I} {pc : Nat} {lv lv' : List (Nat × Value)} {st : List Value} {mu : jm_M} {Q : Option Value → jm_M → Prop}
theorem jm_mrI (k : jm_mr mu → jm_V l g d i pc lv st mu Q) : jm_V l g d i pc lv st mu Q :=
  fun p e s m args below meth c ls H locs C hl hP hS hm => k hm p e s m args below meth c ls H locs C hl hP hS hm
theorem jm_sub (ks : List Nat) (hk : lv_pick lv ks = lv') (k : jm_V l g d i pc lv' st mu Q) : jm_V l g d i pc lv st mu Q :=
  fun p e s m args below meth c ls H locs C hl hP hS hm => k p e s m args below meth c ls H locs C (lv_sub hl ks (by rw [jm_pick, hk])) hP hS hm
theorem jm_pop (v : Value) (hd : decode i.2.1 pc = .ok (.pop, 1)) (hv : v.category = 1) (k : jm_V l g d i (pc + 1) lv st mu Q) : jm_V l g d i pc lv (v :: st) mu Q :=
  fun p e s m args below meth c ls H locs C hl hP hS hm => lv_pop C.1.1 C.1.2.1 hd (by rw [jm_cat]; exact hv) (k p e s m args below meth c ls H locs C hl hP hS hm)
theorem jm_dup (v : Value) (hd : decode i.2.1 pc = .ok (.dup, 1)) (hv : v.category = 1) (k : jm_V l g d i (pc + 1) lv (v :: v :: st) mu Q) : jm_V l g d i pc lv (v :: st) mu Q :=
  fun p e s m args below meth c ls H locs C hl hP hS hm => lv_dup C.1.1 C.1.2.1 hd (by rw [jm_cat]; exact hv) (k p e s m args below meth c ls H locs C hl hP hS hm)
theorem jm_dup2 (v u : Value) (hd : decode i.2.1 pc = .ok (.dup2, 1)) (hv : v.category = 1) (hu : u.category = 1) (k : jm_V l g d i (pc + 1) lv (v :: u :: v :: u :: st) mu Q) : jm_V l g d i pc lv (v :: u :: st) mu Q :=
  fun p e s m args below meth c ls H locs C hl hP hS hm => lv_dup2_11 C.1.1 C.1.2.1 hd (by rw [jm_cat]; exact hv) (by rw [jm_cat]; exact hu) (k p e s m args below meth c ls H locs C hl hP hS hm)
theorem jm_iconst {n : Int} (hd : decode i.2.1 pc = .ok (.iconst n, 1)) (k : jm_V l g d i (pc + 1) lv (jm_i n :: st) mu Q) : jm_V l g d i pc lv st mu Q :=
  fun p e s m args below meth c ls H locs C hl hP hS hm => lv_iconst C.1.1 C.1.2.1 hd rfl (k p e s m args below meth c ls H locs C hl hP hS hm)
theorem jm_bipush {n : Int} (hd : decode i.2.1 pc = .ok (.bipush n, 2)) (hn : (Int8.ofInt n).toInt32 = Int32.ofInt n) (k : jm_V l g d i (pc + 2) lv (jm_i n :: st) mu Q) : jm_V l g d i pc lv st mu Q :=
  fun p e s m args below meth c ls H locs C hl hP hS hm => lv_bipush C.1.1 C.1.2.1 hd hn (k p e s m args below meth c ls H locs C hl hP hS hm)
theorem jm_sipush {n : Int} (hd : decode i.2.1 pc = .ok (.sipush n, 3)) (hn : (Int16.ofInt n).toInt32 = Int32.ofInt n) (k : jm_V l g d i (pc + 3) lv (jm_i n :: st) mu Q) : jm_V l g d i pc lv st mu Q :=
  fun p e s m args below meth c ls H locs C hl hP hS hm => lv_sipush C.1.1 C.1.2.1 hd hn (k p e s m args below meth c ls H locs C hl hP hS hm)
theorem jm_lconst {n : Fin 2} {v : Int64} (hd : decode i.2.1 pc = .ok (.lconst n, 1)) (hv : Int64.ofNat (n : Nat) = v) (k : jm_V l g d i (pc + 1) lv (.long v :: st) mu Q) : jm_V l g d i pc lv st mu Q :=
  fun p e s m args below meth c ls H locs C hl hP hS hm => lv_lconst C.1.1 C.1.2.1 hd hv (k p e s m args below meth c ls H locs C hl hP hS hm)
theorem jm_ldc {idx : Nat} {v : Int32} (z : Int) (hd : decode i.2.1 pc = .ok (.ldc idx, 2)) (hw : Cond.constant i.1.cls idx v ∈ jm_T) (hz : v = Int32.ofInt z) (k : jm_V l g d i (pc + 2) lv (jm_i z :: st) mu Q) : jm_V l g d i pc lv st mu Q :=
  fun p e s m args below meth c ls H locs C hl hP hS hm => lv_ldc C.1.1 C.1.2.1 C.1.2.2.2.1 (C.1.2.2.2.2 _ (List.mem_cons_of_mem _ hw)) hd (hz ▸ k p e s m args below meth c ls H locs C hl hP hS hm)
theorem jm_ldcw {idx : Nat} {v : Int32} (z : Int) (hd : decode i.2.1 pc = .ok (.ldc_w idx, 3)) (hw : Cond.constant i.1.cls idx v ∈ jm_T) (hz : v = Int32.ofInt z) (k : jm_V l g d i (pc + 3) lv (jm_i z :: st) mu Q) : jm_V l g d i pc lv st mu Q :=
  fun p e s m args below meth c ls H locs C hl hP hS hm => lv_ldcw C.1.1 C.1.2.1 C.1.2.2.2.1 (C.1.2.2.2.2 _ (List.mem_cons_of_mem _ hw)) hd (hz ▸ k p e s m args below meth c ls H locs C hl hP hS hm)
theorem jm_ldc2 {idx : Nat} {v : Int64} (hd : decode i.2.1 pc = .ok (.ldc2_w idx, 3)) (hw : Cond.constantLong i.1.cls idx v ∈ jm_T) (k : jm_V l g d i (pc + 3) lv (.long v :: st) mu Q) : jm_V l g d i pc lv st mu Q :=
  fun p e s m args below meth c ls H locs C hl hP hS hm => lv_ldc2 C.1.1 C.1.2.1 C.1.2.2.2.1 (C.1.2.2.2.2 _ (List.mem_cons_of_mem _ hw)) hd (k p e s m args below meth c ls H locs C hl hP hS hm)
theorem jm_at {g : jm_G} {ls : Array Slot} {nL : Nat} {lv : List (Nat × Value)} (hl : lv_has ls nL (lv.map (jm_lq g))) (k : Nat) {j : Nat} {v : Value} (hk : lv[k]? = some (j, v)) : ls[j]? = some (.val (jm_tv g v)) :=
  lv_at hl k (by rw [List.getElem?_map, hk]; rfl)
theorem jm_iload_n {k : Fin 4} {x : Int} (q : Nat) (hd : decode i.2.1 pc = .ok (.iload_n k, 1)) (hk : lv[q]? = some (k.val, jm_i x)) (kk : jm_V l g d i (pc + 1) lv (jm_i x :: st) mu Q) : jm_V l g d i pc lv st mu Q :=
  fun p e s m args below meth c ls H locs C hl hP hS hm => lv_iload_n C.1.1 C.1.2.1 hd rfl (jm_at hl q hk) (kk p e s m args below meth c ls H locs C hl hP hS hm)
theorem jm_iload {j : Nat} {x : Int} (q : Nat) (hd : decode i.2.1 pc = .ok (.iload j, 2)) (hk : lv[q]? = some (j, jm_i x)) (kk : jm_V l g d i (pc + 2) lv (jm_i x :: st) mu Q) : jm_V l g d i pc lv st mu Q :=
  fun p e s m args below meth c ls H locs C hl hP hS hm => lv_iload C.1.1 C.1.2.1 hd (jm_at hl q hk) (kk p e s m args below meth c ls H locs C hl hP hS hm)
theorem jm_lload_n {k : Fin 4} {x : Int64} (q : Nat) (hd : decode i.2.1 pc = .ok (.lload_n k, 1)) (hk : lv[q]? = some (k.val, .long x)) (kk : jm_V l g d i (pc + 1) lv (.long x :: st) mu Q) : jm_V l g d i pc lv st mu Q :=
  fun p e s m args below meth c ls H locs C hl hP hS hm => lv_lload_n C.1.1 C.1.2.1 hd rfl (jm_at hl q hk) (kk p e s m args below meth c ls H locs C hl hP hS hm)
theorem jm_lload {j : Nat} {x : Int64} (q : Nat) (hd : decode i.2.1 pc = .ok (.lload j, 2)) (hk : lv[q]? = some (j, .long x)) (kk : jm_V l g d i (pc + 2) lv (.long x :: st) mu Q) : jm_V l g d i pc lv st mu Q :=
  fun p e s m args below meth c ls H locs C hl hP hS hm => lv_lload C.1.1 C.1.2.1 hd (jm_at hl q hk) (kk p e s m args below meth c ls H locs C hl hP hS hm)
theorem jm_aload_n {k : Fin 4} {x : Nat} (q : Nat) (hd : decode i.2.1 pc = .ok (.aload_n k, 1)) (hk : lv[q]? = some (k.val, .ref x)) (kk : jm_V l g d i (pc + 1) lv (.ref x :: st) mu Q) : jm_V l g d i pc lv st mu Q :=
  fun p e s m args below meth c ls H locs C hl hP hS hm => lv_aload_n C.1.1 C.1.2.1 hd rfl (jm_at hl q hk) (kk p e s m args below meth c ls H locs C hl hP hS hm)
theorem jm_aload {j : Nat} {x : Nat} (q : Nat) (hd : decode i.2.1 pc = .ok (.aload j, 2)) (hk : lv[q]? = some (j, .ref x)) (kk : jm_V l g d i (pc + 2) lv (.ref x :: st) mu Q) : jm_V l g d i pc lv st mu Q :=
  fun p e s m args below meth c ls H locs C hl hP hS hm => lv_aload C.1.1 C.1.2.1 hd (jm_at hl q hk) (kk p e s m args below meth c ls H locs C hl hP hS hm)
theorem jm_istore_n {k : Fin 4} {x : Int} (hd : decode i.2.1 pc = .ok (.istore_n k, 1)) (hn : k.val < i.2.2.1) (hl' : (k.val, jm_i x) :: lv.filter (fun q => !(q.1 == k.val) && !(q.1 + 1 == k.val && q.2.category == 2)) = lv') (kk : jm_V l g d i (pc + 1) lv' st mu Q) : jm_V l g d i pc lv (jm_i x :: st) mu Q := by
  intro p e s m args below meth c ls H locs C hl hP hS hm
  refine lv_istore_n C.1.1 C.1.2.1 hd rfl hl hn (lv' := lv'.map (jm_lq g)) ?_ (fun ls' hl2 => kk p e s m args below meth c ls' H locs C hl2 hP hS hm)
  rw [← hl', jm_filt1]
  rfl
theorem jm_istore {j : Nat} {x : Int} (hd : decode i.2.1 pc = .ok (.istore j, 2)) (hn : j < i.2.2.1) (hl' : (j, jm_i x) :: lv.filter (fun q => !(q.1 == j) && !(q.1 + 1 == j && q.2.category == 2)) = lv') (kk : jm_V l g d i (pc + 2) lv' st mu Q) : jm_V l g d i pc lv (jm_i x :: st) mu Q := by
  intro p e s m args below meth c ls H locs C hl hP hS hm
  refine lv_istore C.1.1 C.1.2.1 hd hl hn (lv' := lv'.map (jm_lq g)) ?_ (fun ls' hl2 => kk p e s m args below meth c ls' H locs C hl2 hP hS hm)
  rw [← hl', jm_filt1]
  rfl
theorem jm_astore_n {k : Fin 4} {x : Nat} (hd : decode i.2.1 pc = .ok (.astore_n k, 1)) (hn : k.val < i.2.2.1) (hl' : (k.val, .ref x) :: lv.filter (fun q => !(q.1 == k.val) && !(q.1 + 1 == k.val && q.2.category == 2)) = lv') (kk : jm_V l g d i (pc + 1) lv' st mu Q) : jm_V l g d i pc lv (.ref x :: st) mu Q := by
  intro p e s m args below meth c ls H locs C hl hP hS hm
  refine lv_astore_n C.1.1 C.1.2.1 hd rfl hl hn (lv' := lv'.map (jm_lq g)) ?_ (fun ls' hl2 => kk p e s m args below meth c ls' H locs C hl2 hP hS hm)
  rw [← hl', jm_filt1]
  rfl
theorem jm_astore {j : Nat} {x : Nat} (hd : decode i.2.1 pc = .ok (.astore j, 2)) (hn : j < i.2.2.1) (hl' : (j, .ref x) :: lv.filter (fun q => !(q.1 == j) && !(q.1 + 1 == j && q.2.category == 2)) = lv') (kk : jm_V l g d i (pc + 2) lv' st mu Q) : jm_V l g d i pc lv (.ref x :: st) mu Q := by
  intro p e s m args below meth c ls H locs C hl hP hS hm
  refine lv_astore C.1.1 C.1.2.1 hd hl hn (lv' := lv'.map (jm_lq g)) ?_ (fun ls' hl2 => kk p e s m args below meth c ls' H locs C hl2 hP hS hm)
  rw [← hl', jm_filt1]
  rfl
theorem jm_lstore_n {k : Fin 4} {x : Int64} (hd : decode i.2.1 pc = .ok (.lstore_n k, 1)) (hn : k.val + 1 < i.2.2.1) (hl' : (k.val, .long x) :: lv.filter (fun q => !(q.1 == k.val) && (!(q.1 == k.val + 1) && !(q.1 + 1 == k.val && q.2.category == 2))) = lv') (kk : jm_V l g d i (pc + 1) lv' st mu Q) : jm_V l g d i pc lv (.long x :: st) mu Q := by
  intro p e s m args below meth c ls H locs C hl hP hS hm
  refine lv_lstore_n C.1.1 C.1.2.1 hd rfl hl hn (lv' := lv'.map (jm_lq g)) ?_ (fun ls' hl2 => kk p e s m args below meth c ls' H locs C hl2 hP hS hm)
  rw [← hl', jm_filt2]
  rfl
theorem jm_lstore {j : Nat} {x : Int64} (hd : decode i.2.1 pc = .ok (.lstore j, 2)) (hn : j + 1 < i.2.2.1) (hl' : (j, .long x) :: lv.filter (fun q => !(q.1 == j) && (!(q.1 == j + 1) && !(q.1 + 1 == j && q.2.category == 2))) = lv') (kk : jm_V l g d i (pc + 2) lv' st mu Q) : jm_V l g d i pc lv (.long x :: st) mu Q := by
  intro p e s m args below meth c ls H locs C hl hP hS hm
  refine lv_lstore C.1.1 C.1.2.1 hd hl hn (lv' := lv'.map (jm_lq g)) ?_ (fun ls' hl2 => kk p e s m args below meth c ls' H locs C hl2 hP hS hm)
  rw [← hl', jm_filt2]
  rfl
theorem jm_iinc {j : Nat} {n x : Int} (q : Nat) (hd : decode i.2.1 pc = .ok (.iinc j n, 3)) (hk : lv[q]? = some (j, jm_i x)) (hn : j < i.2.2.1) (hl' : (j, jm_i (x + n)) :: lv.filter (fun q => !(q.1 == j) && !(q.1 + 1 == j && q.2.category == 2)) = lv') (kk : jm_V l g d i (pc + 3) lv' st mu Q) : jm_V l g d i pc lv st mu Q := by
  intro p e s m args below meth c ls H locs C hl hP hS hm
  refine lv_iinc (k := q) (x := Int32.ofInt x) (v := Int32.ofInt (x + n)) C.1.1 C.1.2.1 hd hl ?_ ?_ hn (lv' := lv'.map (jm_lq g)) ?_ (fun ls' hl2 => kk p e s m args below meth c ls' H locs C hl2 hP hS hm)
  · rw [List.getElem?_map, hk]
    rfl
  · rw [Int32.ofInt_add]
  · rw [← hl', jm_filt1]
    rfl
theorem jm_iadd {a b : Int} (hd : decode i.2.1 pc = .ok (.iadd, 1)) (k : jm_V l g d i (pc + 1) lv (jm_i (a + b) :: st) mu Q) : jm_V l g d i pc lv (jm_i b :: jm_i a :: st) mu Q := by
  intro p e s m args below meth c ls H locs C hl hP hS hm
  refine lv_iadd (x := Int32.ofInt a) (y := Int32.ofInt b) C.1.1 C.1.2.1 hd ?_
  rw [← Int32.ofInt_add]
  exact k p e s m args below meth c ls H locs C hl hP hS hm
theorem jm_isub {a b : Int} (hd : decode i.2.1 pc = .ok (.isub, 1)) (k : jm_V l g d i (pc + 1) lv (jm_i (a - b) :: st) mu Q) : jm_V l g d i pc lv (jm_i b :: jm_i a :: st) mu Q := by
  intro p e s m args below meth c ls H locs C hl hP hS hm
  refine lv_isub (x := Int32.ofInt a) (y := Int32.ofInt b) C.1.1 C.1.2.1 hd ?_
  rw [← Int32.ofInt_sub]
  exact k p e s m args below meth c ls H locs C hl hP hS hm
theorem jm_imul {a b : Int} (hd : decode i.2.1 pc = .ok (.imul, 1)) (k : jm_V l g d i (pc + 1) lv (jm_i (a * b) :: st) mu Q) : jm_V l g d i pc lv (jm_i b :: jm_i a :: st) mu Q := by
  intro p e s m args below meth c ls H locs C hl hP hS hm
  refine lv_imul (x := Int32.ofInt a) (y := Int32.ofInt b) C.1.1 C.1.2.1 hd ?_
  rw [← Int32.ofInt_mul]
  exact k p e s m args below meth c ls H locs C hl hP hS hm
theorem jm_ineg {a : Int} (hd : decode i.2.1 pc = .ok (.ineg, 1)) (k : jm_V l g d i (pc + 1) lv (jm_i (-a) :: st) mu Q) : jm_V l g d i pc lv (jm_i a :: st) mu Q := by
  intro p e s m args below meth c ls H locs C hl hP hS hm
  refine lv_ineg (x := Int32.ofInt a) C.1.1 C.1.2.1 hd ?_
  rw [← Int32.ofInt_neg]
  exact k p e s m args below meth c ls H locs C hl hP hS hm
theorem jm_z0 {b : Int} (hb : jm_rg b) (h : ¬ b = 0) : ¬ Int32.ofInt b = 0 := by
  intro q
  have h2 := congrArg Int32.toInt q
  rw [jm_ti hb] at h2
  exact h (by simpa using h2)
theorem jm_dv {a b : Int} (ha : jm_rg a) (hb : jm_rg b) : Int32.ofInt (a.tdiv b) = Int32.ofInt a / Int32.ofInt b :=
  Int32.ofInt_tdiv (by have := ha.1; show (-2147483648 : Int) ≤ a; omega) (by have := ha.2; show a ≤ (2147483647 : Int); omega) (by have := hb.1; show (-2147483648 : Int) ≤ b; omega) (by have := hb.2; show b ≤ (2147483647 : Int); omega)
theorem jm_idiv {a b : Int} (ha : jm_rg a) (hb : jm_rg b) (h0 : ¬ b = 0) (hd : decode i.2.1 pc = .ok (.idiv, 1)) (k : jm_V l g d i (pc + 1) lv (jm_i (a.tdiv b) :: st) mu Q) : jm_V l g d i pc lv (jm_i b :: jm_i a :: st) mu Q := by
  intro p e s m args below meth c ls H locs C hl hP hS hm
  refine lv_idiv (x := Int32.ofInt a) (y := Int32.ofInt b) C.1.1 C.1.2.1 hd (jm_z0 hb h0) ?_
  rw [← jm_dv ha hb]
  exact k p e s m args below meth c ls H locs C hl hP hS hm
theorem jm_irem {a b : Int} (ha : jm_rg a) (hb : jm_rg b) (h0 : ¬ b = 0) (hd : decode i.2.1 pc = .ok (.irem, 1)) (k : jm_V l g d i (pc + 1) lv (jm_i (a.tmod b) :: st) mu Q) : jm_V l g d i pc lv (jm_i b :: jm_i a :: st) mu Q := by
  intro p e s m args below meth c ls H locs C hl hP hS hm
  refine lv_irem (x := Int32.ofInt a) (y := Int32.ofInt b) C.1.1 C.1.2.1 hd (jm_z0 hb h0) ?_
  have e1 : a.tmod b = a - a.tdiv b * b := by
    have h3 := Int.tmod_add_tdiv_mul a b
    omega
  have e2 : Int32.ofInt a - Int32.ofInt a / Int32.ofInt b * Int32.ofInt b = Int32.ofInt (a.tmod b) := by
    rw [← jm_dv ha hb, ← Int32.ofInt_mul, ← Int32.ofInt_sub, e1]
  rw [e2]
  exact k p e s m args below meth c ls H locs C hl hP hS hm
def jm_and (a b : Int) : Int := (Int32.ofInt a &&& Int32.ofInt b).toInt
theorem jm_iand {a b : Int} (hd : decode i.2.1 pc = .ok (.iand, 1)) (k : jm_V l g d i (pc + 1) lv (jm_i (jm_and a b) :: st) mu Q) : jm_V l g d i pc lv (jm_i b :: jm_i a :: st) mu Q := by
  intro p e s m args below meth c ls H locs C hl hP hS hm
  refine lv_iand (x := Int32.ofInt a) (y := Int32.ofInt b) C.1.1 C.1.2.1 hd ?_
  have h := k p e s m args below meth c ls H locs C hl hP hS hm
  unfold jm_and at h
  rw [jm_iT] at h
  exact h
def jm_or (a b : Int) : Int := (Int32.ofInt a ||| Int32.ofInt b).toInt
theorem jm_ior {a b : Int} (hd : decode i.2.1 pc = .ok (.ior, 1)) (k : jm_V l g d i (pc + 1) lv (jm_i (jm_or a b) :: st) mu Q) : jm_V l g d i pc lv (jm_i b :: jm_i a :: st) mu Q := by
  intro p e s m args below meth c ls H locs C hl hP hS hm
  refine lv_ior (x := Int32.ofInt a) (y := Int32.ofInt b) C.1.1 C.1.2.1 hd ?_
  have h := k p e s m args below meth c ls H locs C hl hP hS hm
  unfold jm_or at h
  rw [jm_iT] at h
  exact h
def jm_xor (a b : Int) : Int := (Int32.ofInt a ^^^ Int32.ofInt b).toInt
theorem jm_ixor {a b : Int} (hd : decode i.2.1 pc = .ok (.ixor, 1)) (k : jm_V l g d i (pc + 1) lv (jm_i (jm_xor a b) :: st) mu Q) : jm_V l g d i pc lv (jm_i b :: jm_i a :: st) mu Q := by
  intro p e s m args below meth c ls H locs C hl hP hS hm
  refine lv_ixor (x := Int32.ofInt a) (y := Int32.ofInt b) C.1.1 C.1.2.1 hd ?_
  have h := k p e s m args below meth c ls H locs C hl hP hS hm
  unfold jm_xor at h
  rw [jm_iT] at h
  exact h
def jm_shl (a b : Int) : Int := (Int32.ofInt a <<< (Int32.ofInt b &&& 31)).toInt
theorem jm_ishl {a b : Int} (hd : decode i.2.1 pc = .ok (.ishl, 1)) (k : jm_V l g d i (pc + 1) lv (jm_i (jm_shl a b) :: st) mu Q) : jm_V l g d i pc lv (jm_i b :: jm_i a :: st) mu Q := by
  intro p e s m args below meth c ls H locs C hl hP hS hm
  refine lv_ishl (x := Int32.ofInt a) (y := Int32.ofInt b) C.1.1 C.1.2.1 hd ?_
  have h := k p e s m args below meth c ls H locs C hl hP hS hm
  unfold jm_shl at h
  rw [jm_iT] at h
  exact h
def jm_shr (a b : Int) : Int := (Int32.ofInt a >>> (Int32.ofInt b &&& 31)).toInt
theorem jm_ishr {a b : Int} (hd : decode i.2.1 pc = .ok (.ishr, 1)) (k : jm_V l g d i (pc + 1) lv (jm_i (jm_shr a b) :: st) mu Q) : jm_V l g d i pc lv (jm_i b :: jm_i a :: st) mu Q := by
  intro p e s m args below meth c ls H locs C hl hP hS hm
  refine lv_ishr (x := Int32.ofInt a) (y := Int32.ofInt b) C.1.1 C.1.2.1 hd ?_
  have h := k p e s m args below meth c ls H locs C hl hP hS hm
  unfold jm_shr at h
  rw [jm_iT] at h
  exact h
def jm_ushr (a b : Int) : Int := (((Int32.ofInt a).toUInt32 >>> ((Int32.ofInt b).toUInt32 &&& Int32.toUInt32 31)).toInt32).toInt
theorem jm_iushr {a b : Int} (hd : decode i.2.1 pc = .ok (.iushr, 1)) (k : jm_V l g d i (pc + 1) lv (jm_i (jm_ushr a b) :: st) mu Q) : jm_V l g d i pc lv (jm_i b :: jm_i a :: st) mu Q := by
  intro p e s m args below meth c ls H locs C hl hP hS hm
  refine lv_iushr (x := Int32.ofInt a) (y := Int32.ofInt b) C.1.1 C.1.2.1 hd rfl ?_
  have h := k p e s m args below meth c ls H locs C hl hP hS hm
  unfold jm_ushr at h
  rw [jm_iT] at h
  exact h
theorem jm_ladd {a b : Int64} (hd : decode i.2.1 pc = .ok (.ladd, 1)) (k : jm_V l g d i (pc + 1) lv (.long (a + b) :: st) mu Q) : jm_V l g d i pc lv (.long b :: .long a :: st) mu Q :=
  fun p e s m args below meth c ls H locs C hl hP hS hm => lv_ladd C.1.1 C.1.2.1 hd (k p e s m args below meth c ls H locs C hl hP hS hm)
theorem jm_lsub {a b : Int64} (hd : decode i.2.1 pc = .ok (.lsub, 1)) (k : jm_V l g d i (pc + 1) lv (.long (a - b) :: st) mu Q) : jm_V l g d i pc lv (.long b :: .long a :: st) mu Q :=
  fun p e s m args below meth c ls H locs C hl hP hS hm => lv_lsub C.1.1 C.1.2.1 hd (k p e s m args below meth c ls H locs C hl hP hS hm)
theorem jm_lmul {a b : Int64} (hd : decode i.2.1 pc = .ok (.lmul, 1)) (k : jm_V l g d i (pc + 1) lv (.long (a * b) :: st) mu Q) : jm_V l g d i pc lv (.long b :: .long a :: st) mu Q :=
  fun p e s m args below meth c ls H locs C hl hP hS hm => lv_lmul C.1.1 C.1.2.1 hd (k p e s m args below meth c ls H locs C hl hP hS hm)
theorem jm_land {a b : Int64} (hd : decode i.2.1 pc = .ok (.land, 1)) (k : jm_V l g d i (pc + 1) lv (.long (a &&& b) :: st) mu Q) : jm_V l g d i pc lv (.long b :: .long a :: st) mu Q :=
  fun p e s m args below meth c ls H locs C hl hP hS hm => lv_land C.1.1 C.1.2.1 hd (k p e s m args below meth c ls H locs C hl hP hS hm)
theorem jm_lor {a b : Int64} (hd : decode i.2.1 pc = .ok (.lor, 1)) (k : jm_V l g d i (pc + 1) lv (.long (a ||| b) :: st) mu Q) : jm_V l g d i pc lv (.long b :: .long a :: st) mu Q :=
  fun p e s m args below meth c ls H locs C hl hP hS hm => lv_lor C.1.1 C.1.2.1 hd (k p e s m args below meth c ls H locs C hl hP hS hm)
theorem jm_ldiv {a b : Int64} (h0 : ¬ b = 0) (hd : decode i.2.1 pc = .ok (.ldiv, 1)) (k : jm_V l g d i (pc + 1) lv (.long (a / b) :: st) mu Q) : jm_V l g d i pc lv (.long b :: .long a :: st) mu Q :=
  fun p e s m args below meth c ls H locs C hl hP hS hm => lv_ldiv C.1.1 C.1.2.1 hd h0 (k p e s m args below meth c ls H locs C hl hP hS hm)
theorem jm_lshl {a : Int64} {b : Int} (hd : decode i.2.1 pc = .ok (.lshl, 1)) (k : jm_V l g d i (pc + 1) lv (.long (a <<< ((Int32.ofInt b).toInt64 &&& 63)) :: st) mu Q) : jm_V l g d i pc lv (jm_i b :: .long a :: st) mu Q :=
  fun p e s m args below meth c ls H locs C hl hP hS hm => lv_lshl (y := Int32.ofInt b) C.1.1 C.1.2.1 hd rfl (k p e s m args below meth c ls H locs C hl hP hS hm)
theorem jm_lshr {a : Int64} {b : Int} (hd : decode i.2.1 pc = .ok (.lshr, 1)) (k : jm_V l g d i (pc + 1) lv (.long (a >>> ((Int32.ofInt b).toInt64 &&& 63)) :: st) mu Q) : jm_V l g d i pc lv (jm_i b :: .long a :: st) mu Q :=
  fun p e s m args below meth c ls H locs C hl hP hS hm => lv_lshr (y := Int32.ofInt b) C.1.1 C.1.2.1 hd rfl (k p e s m args below meth c ls H locs C hl hP hS hm)
theorem jm_lushr {a : Int64} {b : Int} (hd : decode i.2.1 pc = .ok (.lushr, 1)) (k : jm_V l g d i (pc + 1) lv (.long ((a.toUInt64 >>> ((Int32.ofInt b).toInt64.toUInt64 &&& Int64.toUInt64 63)).toInt64) :: st) mu Q) : jm_V l g d i pc lv (jm_i b :: .long a :: st) mu Q :=
  fun p e s m args below meth c ls H locs C hl hP hS hm => lv_lushr (y := Int32.ofInt b) C.1.1 C.1.2.1 hd rfl (k p e s m args below meth c ls H locs C hl hP hS hm)
theorem jm_i2l {a : Int} (hd : decode i.2.1 pc = .ok (.i2l, 1)) (k : jm_V l g d i (pc + 1) lv (.long ((Int32.ofInt a).toInt64) :: st) mu Q) : jm_V l g d i pc lv (jm_i a :: st) mu Q :=
  fun p e s m args below meth c ls H locs C hl hP hS hm => lv_i2l (x := Int32.ofInt a) C.1.1 C.1.2.1 hd rfl (k p e s m args below meth c ls H locs C hl hP hS hm)
theorem jm_l2i {a : Int64} (hd : decode i.2.1 pc = .ok (.l2i, 1)) (k : jm_V l g d i (pc + 1) lv (jm_i a.toInt32.toInt :: st) mu Q) : jm_V l g d i pc lv (.long a :: st) mu Q := by
  intro p e s m args below meth c ls H locs C hl hP hS hm
  refine lv_l2i C.1.1 C.1.2.1 hd rfl ?_
  have h := k p e s m args below meth c ls H locs C hl hP hS hm
  rw [jm_iT] at h
  exact h
theorem jm_lcmp {a b : Int64} (hd : decode i.2.1 pc = .ok (.lcmp, 1)) (k : jm_V l g d i (pc + 1) lv (jm_i (lg_cmp a b).toInt :: st) mu Q) : jm_V l g d i pc lv (.long b :: .long a :: st) mu Q := by
  intro p e s m args below meth c ls H locs C hl hP hS hm
  refine W.lcmp C.1.1 C.1.2.1 hd ?_
  have h := k p e s m args below meth c ls H locs C hl hP hS hm
  rw [jm_iT] at h
  exact h
theorem jm_goto {off : Int} (tgt : Nat) (hd : decode i.2.1 pc = .ok (.goto off, 3)) (ht : (pc : Int) + off = (tgt : Int)) (k : jm_V l g d i tgt lv st mu Q) : jm_V l g d i pc lv st mu Q :=
  fun p e s m args below meth c ls H locs C hl hP hS hm => lv_goto C.1.1 C.1.2.1 hd ht (k p e s m args below meth c ls H locs C hl hP hS hm)
theorem jm_cl1 {a b : Int} (ha : jm_rg a) (hb : jm_rg b) : Int32.ofInt a < Int32.ofInt b ↔ a < b := by rw [Int32.lt_iff_toInt_lt, jm_ti ha, jm_ti hb]
theorem jm_cl2 {a b : Int} (ha : jm_rg a) (hb : jm_rg b) : Int32.ofInt a ≤ Int32.ofInt b ↔ a ≤ b := by rw [Int32.le_iff_toInt_le, jm_ti ha, jm_ti hb]
theorem jm_cl3 {a b : Int} (ha : jm_rg a) (hb : jm_rg b) : Int32.ofInt a = Int32.ofInt b ↔ a = b := by rw [← Int32.toInt_inj, jm_ti ha, jm_ti hb]
theorem jm_rg0 : jm_rg 0 := ⟨by decide, by decide⟩
theorem jm_icmp_eq {a b off : Int} (tgt : Nat) (hd : decode i.2.1 pc = .ok (.if_icmp .eq off, 3)) (ht : (pc : Int) + off = (tgt : Int)) (ha : jm_rg a) (hb : jm_rg b) (kt : a = b → jm_V l g d i tgt lv st mu Q) (kf : ¬ a = b → jm_V l g d i (pc + 3) lv st mu Q) : jm_V l g d i pc lv (jm_i b :: jm_i a :: st) mu Q :=
  fun p e s m args below meth c ls H locs C hl hP hS hm => lv_icmp_eq C.1.1 C.1.2.1 hd ht (fun q => kt ((jm_cl3 ha hb).mp q) p e s m args below meth c ls H locs C hl hP hS hm) (fun q => kf (fun r => q ((jm_cl3 ha hb).mpr r)) p e s m args below meth c ls H locs C hl hP hS hm)
theorem jm_if_eq {a off : Int} (tgt : Nat) (hd : decode i.2.1 pc = .ok (.ifCond .eq off, 3)) (ht : (pc : Int) + off = (tgt : Int)) (ha : jm_rg a) (kt : a = 0 → jm_V l g d i tgt lv st mu Q) (kf : ¬ a = 0 → jm_V l g d i (pc + 3) lv st mu Q) : jm_V l g d i pc lv (jm_i a :: st) mu Q :=
  fun p e s m args below meth c ls H locs C hl hP hS hm => lv_if_eq C.1.1 C.1.2.1 hd ht (fun q => kt ((jm_cl3 ha jm_rg0).mp q) p e s m args below meth c ls H locs C hl hP hS hm) (fun q => kf (fun r => q ((jm_cl3 ha jm_rg0).mpr r)) p e s m args below meth c ls H locs C hl hP hS hm)
theorem jm_icmp_ne {a b off : Int} (tgt : Nat) (hd : decode i.2.1 pc = .ok (.if_icmp .ne off, 3)) (ht : (pc : Int) + off = (tgt : Int)) (ha : jm_rg a) (hb : jm_rg b) (kt : ¬ a = b → jm_V l g d i tgt lv st mu Q) (kf : a = b → jm_V l g d i (pc + 3) lv st mu Q) : jm_V l g d i pc lv (jm_i b :: jm_i a :: st) mu Q :=
  fun p e s m args below meth c ls H locs C hl hP hS hm => lv_icmp_ne C.1.1 C.1.2.1 hd ht (fun q => kt (fun r => q ((jm_cl3 ha hb).mpr r)) p e s m args below meth c ls H locs C hl hP hS hm) (fun q => kf ((jm_cl3 ha hb).mp q) p e s m args below meth c ls H locs C hl hP hS hm)
theorem jm_if_ne {a off : Int} (tgt : Nat) (hd : decode i.2.1 pc = .ok (.ifCond .ne off, 3)) (ht : (pc : Int) + off = (tgt : Int)) (ha : jm_rg a) (kt : ¬ a = 0 → jm_V l g d i tgt lv st mu Q) (kf : a = 0 → jm_V l g d i (pc + 3) lv st mu Q) : jm_V l g d i pc lv (jm_i a :: st) mu Q :=
  fun p e s m args below meth c ls H locs C hl hP hS hm => lv_if_ne C.1.1 C.1.2.1 hd ht (fun q => kt (fun r => q ((jm_cl3 ha jm_rg0).mpr r)) p e s m args below meth c ls H locs C hl hP hS hm) (fun q => kf ((jm_cl3 ha jm_rg0).mp q) p e s m args below meth c ls H locs C hl hP hS hm)
theorem jm_icmp_lt {a b off : Int} (tgt : Nat) (hd : decode i.2.1 pc = .ok (.if_icmp .lt off, 3)) (ht : (pc : Int) + off = (tgt : Int)) (ha : jm_rg a) (hb : jm_rg b) (kt : a < b → jm_V l g d i tgt lv st mu Q) (kf : b ≤ a → jm_V l g d i (pc + 3) lv st mu Q) : jm_V l g d i pc lv (jm_i b :: jm_i a :: st) mu Q :=
  fun p e s m args below meth c ls H locs C hl hP hS hm => lv_icmp_lt C.1.1 C.1.2.1 hd ht (fun q => kt ((jm_cl1 ha hb).mp q) p e s m args below meth c ls H locs C hl hP hS hm) (fun q => kf (Int.not_lt.mp (fun r => q ((jm_cl1 ha hb).mpr r))) p e s m args below meth c ls H locs C hl hP hS hm)
theorem jm_if_lt {a off : Int} (tgt : Nat) (hd : decode i.2.1 pc = .ok (.ifCond .lt off, 3)) (ht : (pc : Int) + off = (tgt : Int)) (ha : jm_rg a) (kt : a < 0 → jm_V l g d i tgt lv st mu Q) (kf : 0 ≤ a → jm_V l g d i (pc + 3) lv st mu Q) : jm_V l g d i pc lv (jm_i a :: st) mu Q :=
  fun p e s m args below meth c ls H locs C hl hP hS hm => lv_if_lt C.1.1 C.1.2.1 hd ht (fun q => kt ((jm_cl1 ha jm_rg0).mp q) p e s m args below meth c ls H locs C hl hP hS hm) (fun q => kf (Int.not_lt.mp (fun r => q ((jm_cl1 ha jm_rg0).mpr r))) p e s m args below meth c ls H locs C hl hP hS hm)
theorem jm_icmp_ge {a b off : Int} (tgt : Nat) (hd : decode i.2.1 pc = .ok (.if_icmp .ge off, 3)) (ht : (pc : Int) + off = (tgt : Int)) (ha : jm_rg a) (hb : jm_rg b) (kt : b ≤ a → jm_V l g d i tgt lv st mu Q) (kf : a < b → jm_V l g d i (pc + 3) lv st mu Q) : jm_V l g d i pc lv (jm_i b :: jm_i a :: st) mu Q :=
  fun p e s m args below meth c ls H locs C hl hP hS hm => lv_icmp_ge C.1.1 C.1.2.1 hd ht (fun q => kt ((jm_cl2 hb ha).mp q) p e s m args below meth c ls H locs C hl hP hS hm) (fun q => kf (Int.not_le.mp (fun r => q ((jm_cl2 hb ha).mpr r))) p e s m args below meth c ls H locs C hl hP hS hm)
theorem jm_if_ge {a off : Int} (tgt : Nat) (hd : decode i.2.1 pc = .ok (.ifCond .ge off, 3)) (ht : (pc : Int) + off = (tgt : Int)) (ha : jm_rg a) (kt : 0 ≤ a → jm_V l g d i tgt lv st mu Q) (kf : a < 0 → jm_V l g d i (pc + 3) lv st mu Q) : jm_V l g d i pc lv (jm_i a :: st) mu Q :=
  fun p e s m args below meth c ls H locs C hl hP hS hm => lv_if_ge C.1.1 C.1.2.1 hd ht (fun q => kt ((jm_cl2 jm_rg0 ha).mp q) p e s m args below meth c ls H locs C hl hP hS hm) (fun q => kf (Int.not_le.mp (fun r => q ((jm_cl2 jm_rg0 ha).mpr r))) p e s m args below meth c ls H locs C hl hP hS hm)
theorem jm_icmp_gt {a b off : Int} (tgt : Nat) (hd : decode i.2.1 pc = .ok (.if_icmp .gt off, 3)) (ht : (pc : Int) + off = (tgt : Int)) (ha : jm_rg a) (hb : jm_rg b) (kt : b < a → jm_V l g d i tgt lv st mu Q) (kf : a ≤ b → jm_V l g d i (pc + 3) lv st mu Q) : jm_V l g d i pc lv (jm_i b :: jm_i a :: st) mu Q :=
  fun p e s m args below meth c ls H locs C hl hP hS hm => lv_icmp_gt C.1.1 C.1.2.1 hd ht (fun q => kt ((jm_cl1 hb ha).mp q) p e s m args below meth c ls H locs C hl hP hS hm) (fun q => kf (Int.not_lt.mp (fun r => q ((jm_cl1 hb ha).mpr r))) p e s m args below meth c ls H locs C hl hP hS hm)
theorem jm_if_gt {a off : Int} (tgt : Nat) (hd : decode i.2.1 pc = .ok (.ifCond .gt off, 3)) (ht : (pc : Int) + off = (tgt : Int)) (ha : jm_rg a) (kt : 0 < a → jm_V l g d i tgt lv st mu Q) (kf : a ≤ 0 → jm_V l g d i (pc + 3) lv st mu Q) : jm_V l g d i pc lv (jm_i a :: st) mu Q :=
  fun p e s m args below meth c ls H locs C hl hP hS hm => lv_if_gt C.1.1 C.1.2.1 hd ht (fun q => kt ((jm_cl1 jm_rg0 ha).mp q) p e s m args below meth c ls H locs C hl hP hS hm) (fun q => kf (Int.not_lt.mp (fun r => q ((jm_cl1 jm_rg0 ha).mpr r))) p e s m args below meth c ls H locs C hl hP hS hm)
theorem jm_icmp_le {a b off : Int} (tgt : Nat) (hd : decode i.2.1 pc = .ok (.if_icmp .le off, 3)) (ht : (pc : Int) + off = (tgt : Int)) (ha : jm_rg a) (hb : jm_rg b) (kt : a ≤ b → jm_V l g d i tgt lv st mu Q) (kf : b < a → jm_V l g d i (pc + 3) lv st mu Q) : jm_V l g d i pc lv (jm_i b :: jm_i a :: st) mu Q :=
  fun p e s m args below meth c ls H locs C hl hP hS hm => lv_icmp_le C.1.1 C.1.2.1 hd ht (fun q => kt ((jm_cl2 ha hb).mp q) p e s m args below meth c ls H locs C hl hP hS hm) (fun q => kf (Int.not_le.mp (fun r => q ((jm_cl2 ha hb).mpr r))) p e s m args below meth c ls H locs C hl hP hS hm)
theorem jm_if_le {a off : Int} (tgt : Nat) (hd : decode i.2.1 pc = .ok (.ifCond .le off, 3)) (ht : (pc : Int) + off = (tgt : Int)) (ha : jm_rg a) (kt : a ≤ 0 → jm_V l g d i tgt lv st mu Q) (kf : 0 < a → jm_V l g d i (pc + 3) lv st mu Q) : jm_V l g d i pc lv (jm_i a :: st) mu Q :=
  fun p e s m args below meth c ls H locs C hl hP hS hm => lv_if_le C.1.1 C.1.2.1 hd ht (fun q => kt ((jm_cl2 ha jm_rg0).mp q) p e s m args below meth c ls H locs C hl hP hS hm) (fun q => kf (Int.not_le.mp (fun r => q ((jm_cl2 ha jm_rg0).mpr r))) p e s m args below meth c ls H locs C hl hP hS hm)
theorem jm_tin {a dflt lo hi off : Int} {offs : Array Int} {len : Nat} (tgt : Nat) (hd : decode i.2.1 pc = .ok (.tableswitch dflt lo hi offs, len)) (ha : jm_rg a) (h1 : lo ≤ a) (h2 : a ≤ hi) (ho : offs[(a - lo).toNat]? = some off) (ht : (pc : Int) + off = (tgt : Int)) (k : jm_V l g d i tgt lv st mu Q) : jm_V l g d i pc lv (jm_i a :: st) mu Q := by
  intro p e s m args below meth c ls H locs C hl hP hS hm
  exact lv_tableIn (x := Int32.ofInt a) C.1.1 C.1.2.1 hd (by rw [jm_ti ha]; omega) (by rw [jm_ti ha]; omega) (by rw [jm_ti ha]; exact ho) ht (k p e s m args below meth c ls H locs C hl hP hS hm)
theorem jm_tout {a dflt lo hi : Int} {offs : Array Int} {len : Nat} (tgt : Nat) (hd : decode i.2.1 pc = .ok (.tableswitch dflt lo hi offs, len)) (ha : jm_rg a) (h : a < lo ∨ hi < a) (ht : (pc : Int) + dflt = (tgt : Int)) (k : jm_V l g d i tgt lv st mu Q) : jm_V l g d i pc lv (jm_i a :: st) mu Q := by
  intro p e s m args below meth c ls H locs C hl hP hS hm
  exact lv_tableOut (x := Int32.ofInt a) C.1.1 C.1.2.1 hd (by rw [jm_ti ha]; exact h) ht (k p e s m args below meth c ls H locs C hl hP hS hm)
theorem jm_lsw {a dflt off : Int} {ps : Array (Int × Int)} {len : Nat} (tgt : Nat) (hd : decode i.2.1 pc = .ok (.lookupswitch dflt ps, len)) (ha : jm_rg a) (hp : (ps.toList.zip (ps.toList.drop 1)).all (fun (a, next) => a.1 < next.1) = true) (ho : Op.lookupswitch.offset ps.toList dflt a = off) (ht : (pc : Int) + off = (tgt : Int)) (k : jm_V l g d i tgt lv st mu Q) : jm_V l g d i pc lv (jm_i a :: st) mu Q := by
  intro p e s m args below meth c ls H locs C hl hP hS hm
  exact lv_lookup (x := Int32.ofInt a) C.1.1 C.1.2.1 hd hp (by rw [jm_ti ha]; exact ho) ht (k p e s m args below meth c ls H locs C hl hP hS hm)
/-! arrays -/
theorem jm_iald {z : Int} {k n : Nat} (hd : decode i.2.1 pc = .ok (.iaload, 1)) (hy : g.1[k]? = some (.inl n)) (hn : n ≤ 2147483648) (h0 : 0 ≤ z) (h1 : z < n) (kk : jm_V l g d i (pc + 1) lv (jm_i (mu.1 k z) :: st) mu Q) : jm_V l g d i pc lv (jm_i z :: .ref k :: st) mu Q := by
  intro p e s m args below meth c ls H locs C hl hP hS hm
  refine va_iald (i := Int32.ofInt z) C.1.1 C.1.2.1 C.2.2.2.1 hP k 0 (jm_wa hy) rfl (jm_in h0 h1 hn) hd ?_
  have h := kk p e s m args below meth c ls H locs C hl hP hS hm
  show W _ _ _ _ _ _ _ _ _ _ _ _ _ _ _ (F0 _ _ _ (.int (Int32.ofInt (mu.1 k ((Int32.ofInt z).toNatClampNeg : Int))) :: _))
  rw [jm_tn h0 (by omega)]
  exact h
theorem jm_lald {z : Int} {k n : Nat} (hd : decode i.2.1 pc = .ok (.laload, 1)) (hy : g.1[k]? = some (.inr (.inl n))) (hn : n ≤ 2147483648) (h0 : 0 ≤ z) (h1 : z < n) (kk : jm_V l g d i (pc + 1) lv (.long (mu.2 k z) :: st) mu Q) : jm_V l g d i pc lv (jm_i z :: .ref k :: st) mu Q := by
  intro p e s m args below meth c ls H locs C hl hP hS hm
  refine va_lald (i := Int32.ofInt z) C.1.1 C.1.2.1 C.2.2.2.1 hP k 1 (jm_wa hy) rfl (jm_in h0 h1 hn) hd ?_
  have h := kk p e s m args below meth c ls H locs C hl hP hS hm
  show W _ _ _ _ _ _ _ _ _ _ _ _ _ _ _ (F0 _ _ _ (.long (mu.2 k ((Int32.ofInt z).toNatClampNeg : Int)) :: _))
  rw [jm_tn h0 (by omega)]
  exact h
theorem jm_aald {z : Int} {k r : Nat} {rs : List Nat} (hd : decode i.2.1 pc = .ok (.aaload, 1)) (hy : g.1[k]? = some (.inr (.inr (.inl rs)))) (hn : rs.length ≤ 2147483648) (h0 : 0 ≤ z) (h1 : z < rs.length) (hr : rs[z.toNat]? = some r) (kk : jm_V l g d i (pc + 1) lv (.ref r :: st) mu Q) : jm_V l g d i pc lv (jm_i z :: .ref k :: st) mu Q := by
  intro p e s m args below meth c ls H locs C hl hP hS hm
  refine va_aldq (i := Int32.ofInt z) C.1.1 C.1.2.1 C.2.2.2.1 hP k 2 (jm_wa hy) rfl (jm_in h0 h1 hn) hd ?_
  have h := kk p e s m args below meth c ls H locs C hl hP hS hm
  have e1 : (Int32.ofInt z).toNatClampNeg = z.toNat := by have := jm_tn h0 (by omega); omega
  have e2 : va_rf ((rs[(Int32.ofInt z).toNatClampNeg]?).map g.2.2.1) = .ref (g.2.2.1 r) := by rw [e1, hr]; rfl
  show W _ _ _ _ _ _ _ _ _ _ _ _ _ _ _ (F0 _ _ _ (va_rf ((rs[(Int32.ofInt z).toNatClampNeg]?).map g.2.2.1) :: _))
  rw [e2]
  exact h
theorem jm_alen {k n : Nat} (hd : decode i.2.1 pc = .ok (.arraylength, 1)) (hy : g.1[k]? = some (.inl n)) (kk : jm_V l g d i (pc + 1) lv (jm_i n :: st) mu Q) : jm_V l g d i pc lv (.ref k :: st) mu Q := by
  intro p e s m args below meth c ls H locs C hl hP hS hm
  refine va_alen (ty := .int) C.1.1 C.1.2.1 C.2.2.2.1 hP k 0 (jm_wa hy) rfl (v := Int32.ofInt n) ?_ hd (kk p e s m args below meth c ls H locs C hl hP hS hm)
  exact (Int32.ofInt_eq_ofNat).symm
theorem jm_mrw {mu : jm_M} {k : Nat} {z x : Int} (hm : jm_mr mu) (hx : jm_rg x) : jm_mr (jm_wr mu k z x) := by
  intro c i
  show jm_rg (if c = k ∧ i = z then x else mu.1 c i)
  split
  · exact hx
  · exact hm c i
theorem jm_iast {z x : Int} {k n : Nat} (hd : decode i.2.1 pc = .ok (.iastore, 1)) (hy : g.1[k]? = some (.inl n)) (hn : n ≤ 2147483648) (h0 : 0 ≤ z) (h1 : z < n) (hx : jm_rg x) (kk : jm_V l g d i (pc + 1) lv st (jm_wr mu k z x) Q) : jm_V l g d i pc lv (jm_i x :: jm_i z :: .ref k :: st) mu Q := by
  intro p e s m args below meth c ls H locs C hl hP hS hm
  refine va_iast (i := Int32.ofInt z) (x := Int32.ofInt x) C.1.1 C.1.2.1 C.2.2.2.1 hP (jm_wd C.2.2.2.2.1) hS k 0 (jm_wa hy) rfl (jm_in h0 h1 hn) hd (fun H1 locs1 hP1 hD1 hS1 => ?_)
  have e1 : (Int32.ofInt z).toNatClampNeg = z.toNat := by have := jm_tn h0 (by omega); omega
  rw [jm_ws1 (mu' := jm_wr mu k z x) hy ?_ (fun j s hj _ => jm_oth j s hj)] at hP1
  · exact kk p e s m args below meth c ls H1 locs1 C hl hP1 hS1 (jm_mrw hm hx)
  · show Sum.inl _ = Sum.inl _
    congr 4
    funext j
    show Int32.ofInt (if k = k ∧ (j : Int) = z then x else mu.1 k j) = if j = (Int32.ofInt z).toNatClampNeg then Int32.ofInt x else Int32.ofInt (mu.1 k j)
    rw [e1]
    by_cases hj : j = z.toNat
    · rw [if_pos hj, if_pos ⟨rfl, by omega⟩]
    · rw [if_neg hj, if_neg (fun q => hj (by have := q.2; omega))]
theorem jm_othl {k : Nat} {z : Int} {x : Int64} (j : Nat) (s : jm_S) (hj : j ≠ k) : jm_el g (jm_wl mu k z x) j s = jm_el g mu j s := by
  have h : ∀ b : Int, (jm_wl mu k z x).2 j b = mu.2 j b := fun b => by simp [jm_wl, hj]
  rcases s with n | n | rs | o
  · rfl
  · simp only [jm_el, h]
  · rfl
  · rfl
theorem jm_last {z : Int} {x : Int64} {k n : Nat} (hd : decode i.2.1 pc = .ok (.lastore, 1)) (hy : g.1[k]? = some (.inr (.inl n))) (hn : n ≤ 2147483648) (h0 : 0 ≤ z) (h1 : z < n) (kk : jm_V l g d i (pc + 1) lv st (jm_wl mu k z x) Q) : jm_V l g d i pc lv (.long x :: jm_i z :: .ref k :: st) mu Q := by
  intro p e s m args below meth c ls H locs C hl hP hS hm
  refine va_last (i := Int32.ofInt z) (x := x) C.1.1 C.1.2.1 C.2.2.2.1 hP (jm_wd C.2.2.2.2.1) hS k 1 (jm_wa hy) rfl (jm_in h0 h1 hn) hd (fun H1 locs1 hP1 hD1 hS1 => ?_)
  have e1 : (Int32.ofInt z).toNatClampNeg = z.toNat := by have := jm_tn h0 (by omega); omega
  rw [jm_ws1 (mu' := jm_wl mu k z x) hy ?_ (fun j s hj _ => jm_othl j s hj)] at hP1
  · exact kk p e s m args below meth c ls H1 locs1 C hl hP1 hS1 hm
  · show Sum.inl _ = Sum.inl _
    congr 5
    funext j
    show (if k = k ∧ (j : Int) = z then x else mu.2 k j) = if j = (Int32.ofInt z).toNatClampNeg then x else mu.2 k j
    rw [e1]
    by_cases hj : j = z.toNat
    · rw [if_pos hj, if_pos ⟨rfl, by omega⟩]
    · rw [if_neg hj, if_neg (fun q => hj (by have := q.2; omega))]
end JR
end
section
section JF
variable {l : Launch} {g : jm_G} {d : Nat} {i : jm_I} {pc : Nat} {lv lv' : List (Nat × Value)} {st : List Value} {mu : jm_M} {Q : Option Value → jm_M → Prop}
/-- the field j of class ci, under the link idx of class own -/
def jm_fl (own : String) (idx ci j : Nat) : Prop := ∃ q : vw_C, jm_cl[ci]? = some q ∧ j < q.2.2 ∧ (∀ w ∈ u_ws q.1 q.2.1 q.2.2, w ∈ jm_T) ∧ Cond.fieldLink own idx (q.2.1 j).1 (q.2.1 j).2.1 (q.2.1 j).2.2.1 ∈ jm_T
theorem jm_fvat {fs : List (Option Nat)} {k j : Nat} {f : Option Nat} (hf : fs[j]? = some f) : (fs.mapIdx (jm_fv g mu k))[j]? = some (jm_fv g mu k j f) := by
  rw [List.getElem?_mapIdx, hf]
  rfl
theorem jm_geti {idx k ci : Nat} {fs : List (Option Nat)} (j : Nat) (hd : decode i.2.1 pc = .ok (.getfield idx, 3)) (hL : jm_fl i.1.cls idx ci j) (hy : g.1[k]? = some (.inr (.inr (.inr (ci, fs))))) (hf : fs[j]? = some none) (kk : jm_V l g d i (pc + 3) lv (jm_i (mu.1 k j) :: st) mu Q) : jm_V l g d i pc lv (.ref k :: st) mu Q := by
  intro p e s m args below meth c ls H locs C hl hP hS hm
  obtain ⟨q, h1, h2, h3, h4⟩ := hL
  exact va_get (v := jm_i (mu.1 k j)) C.1.1 C.1.2.1 C.1.2.2.2.2 (fun w hw => List.mem_cons_of_mem _ (h3 w hw)) C.1.2.2.2.1 C.2.2.2.1 hP k (jm_wa hy) h1 j h2 (C.1.2.2.2.2 _ (List.mem_cons_of_mem _ h4)) (fun _ h => h) (jm_fvat hf) hd (kk p e s m args below meth c ls H locs C hl hP hS hm)
theorem jm_getr {idx k ci r : Nat} {fs : List (Option Nat)} (j : Nat) (hd : decode i.2.1 pc = .ok (.getfield idx, 3)) (hL : jm_fl i.1.cls idx ci j) (hy : g.1[k]? = some (.inr (.inr (.inr (ci, fs))))) (hf : fs[j]? = some (some r)) (kk : jm_V l g d i (pc + 3) lv (.ref r :: st) mu Q) : jm_V l g d i pc lv (.ref k :: st) mu Q := by
  intro p e s m args below meth c ls H locs C hl hP hS hm
  obtain ⟨q, h1, h2, h3, h4⟩ := hL
  exact va_get (v := .ref (g.2.2.1 r)) C.1.1 C.1.2.1 C.1.2.2.2.2 (fun w hw => List.mem_cons_of_mem _ (h3 w hw)) C.1.2.2.2.1 C.2.2.2.1 hP k (jm_wa hy) h1 j h2 (C.1.2.2.2.2 _ (List.mem_cons_of_mem _ h4)) (fun _ h => h) (jm_fvat hf) hd (kk p e s m args below meth c ls H locs C hl hP hS hm)
/-- a class's field types, and names that are apart -/
def jm_ft (ci : Nat) (ty : Nat → FieldType) : Prop := ∀ q : vw_C, jm_cl[ci]? = some q → (∀ k, k < q.2.2 → parseFieldDescriptor (q.2.1 k).2.2.1 = some (ty k)) ∧ ∀ a, a < q.2.2 → ∀ b, b < q.2.2 → a ≠ b → (q.2.1 a).2.1 ≠ (q.2.1 b).2.1
theorem jm_put {x : Int} {idx k ci : Nat} {fs : List (Option Nat)} {ty : Nat → FieldType} (j : Nat) (hd : decode i.2.1 pc = .ok (.putfield idx, 3)) (hL : jm_fl i.1.cls idx ci j) (hT : jm_ft ci ty) (hfin : ∀ q : vw_C, jm_cl[ci]? = some q → (q.2.1 j).2.2.2 = false) (hn : narrow (ty j) (jm_i x) = jm_i x) (hfit : fits (ty j) (jm_i x) = true) (hy : g.1[k]? = some (.inr (.inr (.inr (ci, fs))))) (hf : fs[j]? = some none) (hx : jm_rg x) (kk : jm_V l g d i (pc + 3) lv st (jm_wr mu k j x) Q) : jm_V l g d i pc lv (jm_i x :: .ref k :: st) mu Q := by
  intro p e s m args below meth c ls H locs C hl hP hS hm
  obtain ⟨q, h1, h2, h3, h4⟩ := hL
  obtain ⟨t1, t2⟩ := hT q h1
  have hlt : j < fs.length := (List.getElem?_eq_some_iff.mp hf).1
  refine va_put (v := jm_i x) C.1.1 C.1.2.1 C.1.2.2.2.2 (fun w hw => List.mem_cons_of_mem _ (h3 w hw)) ty t1 t2 C.1.2.2.2.1 C.2.2.2.1 hP (jm_wd C.2.2.2.2.1) hS k (jm_wa hy) h1 j h2 (C.1.2.2.2.2 _ (List.mem_cons_of_mem _ h4)) (fun _ h => h) (hfin q h1) (t1 j h2) hn hfit (by rw [List.length_mapIdx]; exact hlt) hd (fun H1 locs1 hP1 hD1 hS1 => ?_)
  rw [jm_ws1 (mu' := jm_wr mu k j x) hy ?_ (fun a s ha _ => jm_oth a s ha)] at hP1
  · exact kk p e s m args below meth c ls H1 locs1 C hl hP1 hS1 (jm_mrw hm hx)
  · show Sum.inr (ci, fs.mapIdx (jm_fv g (jm_wr mu k j x) k)) = Sum.inr (ci, (fs.mapIdx (jm_fv g mu k)).set j (jm_i x))
    congr 2
    apply List.ext_getElem?
    intro a
    by_cases ha : a = j
    · subst ha
      rw [List.getElem?_set_self (by rw [List.length_mapIdx]; exact hlt), List.getElem?_mapIdx, hf]
      show some (jm_i (if k = k ∧ (a : Int) = a then x else mu.1 k a)) = _
      rw [if_pos ⟨rfl, rfl⟩]
    · rw [List.getElem?_set_ne (fun z => ha z.symm), List.getElem?_mapIdx, List.getElem?_mapIdx]
      cases hfa : fs[a]? with
      | none => rfl
      | some f =>
        cases f with
        | none =>
          show some (jm_i (if k = k ∧ (a : Int) = j then x else mu.1 k a)) = some (jm_i (mu.1 k a))
          rw [if_neg (fun z => ha (by have := z.2; omega))]
        | some r => rfl
theorem jm_nI (x : Int) : narrow .int (jm_i x) = jm_i x := rfl
theorem jm_fI (x : Int) : fits .int (jm_i x) = true := rfl
theorem jm_b01 {x : Int} (h : x = 0 ∨ x = 1) : narrow .boolean (jm_i x) = jm_i x ∧ fits .boolean (jm_i x) = true := by
  rcases h with rfl | rfl <;> exact ⟨by decide, by decide⟩
/-! returns -/
theorem jm_iret {z : Int} (hd : decode i.2.1 pc = .ok (.ireturn, 1)) (hr : i.2.2.2 = some .int) (hq : Q (some (jm_i z)) mu) : jm_V l g d i pc lv [jm_i z] mu Q := by
  intro p e s m args below meth c ls H locs C hl hP hS hm
  exact W.iret (v := Int32.ofInt z) C.1.1 C.1.2.1 (C.2.1.trans hr) (fun t ht hW => ⟨⟨some (jm_i z), mu, rfl, hq, by rw [ht]; exact hP, hm⟩, hS.F ht⟩) hS.2.2 hd C.2.2.1
theorem jm_zret {z : Int} (hd : decode i.2.1 pc = .ok (.ireturn, 1)) (hr : i.2.2.2 = some .boolean) (hz : z = 0 ∨ z = 1) (hq : Q (some (jm_i z)) mu) : jm_V l g d i pc lv [jm_i z] mu Q := by
  intro p e s m args below meth c ls H locs C hl hP hS hm
  exact W.zret (v := Int32.ofInt z) C.1.1 C.1.2.1 (C.2.1.trans hr) (jm_b01 hz).1 (fun t ht hW => ⟨⟨some (jm_i z), mu, rfl, hq, by rw [ht]; exact hP, hm⟩, hS.F ht⟩) hS.2.2 hd C.2.2.1
theorem jm_lret {z : Int64} (hd : decode i.2.1 pc = .ok (.lreturn, 1)) (hr : i.2.2.2 = some .long) (hq : Q (some (.long z)) mu) : jm_V l g d i pc lv [.long z] mu Q := by
  intro p e s m args below meth c ls H locs C hl hP hS hm
  exact W.lret (v := z) C.1.1 C.1.2.1 (C.2.1.trans hr) (fun t ht hW => ⟨⟨some (.long z), mu, rfl, hq, by rw [ht]; exact hP, hm⟩, hS.F ht⟩) hS.2.2 hd C.2.2.1
theorem jm_vret (hd : decode i.2.1 pc = .ok (.return_, 1)) (hr : i.2.2.2 = none) (hq : Q none mu) : jm_V l g d i pc lv [] mu Q := by
  intro p e s m args below meth c ls H locs C hl hP hS hm
  exact W.vret C.1.1 C.1.2.1 (C.2.1.trans hr) (fun t ht hW => ⟨⟨none, mu, rfl, hq, by rw [ht]; exact hP, hm⟩, hS.F ht⟩) hS.2.2 hd C.2.2.1
/-- a method's contract out of its walk -/
theorem jm_enter {As : List Value} (lv : List (Nat × Value)) (hy : plainName i.1.cls = true) (hn : (lg_sl (As.map (jm_tv g))).length ≤ i.2.2.1) (he : lv_args 0 (As.map (jm_tv g)) = lv.map (jm_lq g)) (h : jm_V l g d i 0 lv [] mu Q) : jm_R l g d i As mu Q := by
  refine ⟨d, Nat.le_refl d, ?_⟩
  refine Met.ofW (cc := i.2.1) (maxL := i.2.2.1) (ret := i.2.2.2) hy rfl ?_
  intro p e s m args below meth c s₁ B hml hv
  obtain ⟨rfl, hK, hP, hok, hZ, hm⟩ := hv
  have hts := atoms_spec (ws := jm_ws i) B.pre
  have hown : s.vm.findClass i.1.cls = some m.cls := findClass_of_methodNamed B.named
  have hl := lv_entry (As.map (jm_tv g)) (n := i.2.2.1) hn
  rw [lg_entry_eq]
  rw [he] at hl
  exact h p e s m _ below meth c _ s.heap [] ⟨⟨B.exec, B.bytes, hml, hown, hts⟩, B.returns, B.notSynchronized, hK, hok, hZ⟩ hl hP va_S.rf hm
theorem jm_R.mono {As : List Value} {Q1 Q2 : Option Value → jm_M → Prop} (h : jm_R l g d i As mu Q1) (hq : ∀ r mu1, Q1 r mu1 → Q2 r mu1) : jm_R l g d i As mu Q2 := by
  obtain ⟨d0, h0, h1⟩ := h
  refine ⟨d0, h0, MetFree.mono h1 (fun _ _ h => h) (fun _ _ _ _ _ _ => trivial) (fun a s o s' _ hh => ?_)⟩
  obtain ⟨⟨⟨r, mu1, e1, e2, e3⟩, e4⟩, e5⟩ := hh
  exact ⟨⟨⟨r, mu1, e1, hq r mu1 e2, e3⟩, e4⟩, e5⟩
/-- what the tables say of a call -/
def jm_cw (y : jm_I) (n : Nat) : Prop := Cond.code y.1 y.2.1 y.2.2.1 y.2.2.2 ∈ jm_T ∧ Cond.initialized y.1.cls ∈ jm_T ∧ (y.1.cls ≠ "java/lang/invoke/MethodHandle" ∧ y.1.cls ≠ "java/lang/invoke/VarHandle" ∧ (parseMethodDescriptor y.1.desc).map (fun d => d.parameters.length) = some n) ∧ y.2.2.1 ≤ 21
def jm_mv (own : String) (idx : Nat) (y : jm_I) (n : Nat) : Prop := jm_cw y n ∧ Cond.methodLink own idx y.1 ∈ jm_T ∧ Cond.instanceMethod y.1 ∈ jm_T ∧ Cond.selects y.1.cls y.1 y.1 ∈ jm_T
def jm_ms (own : String) (idx : Nat) (y : jm_I) (n : Nat) : Prop := jm_cw y n ∧ Cond.methodLink own idx y.1 ∈ jm_T ∧ Cond.static y.1 ∈ jm_T
def jm_mn (g : jm_G) (own : String) (idx : Nat) (y : jm_I) (host : String) (n : Nat) : Prop := jm_cw y n ∧ Cond.static y.1 ∈ jm_T ∧ ∀ s : State, g.2.2.2.2 s → va_Nw (.methodLinkNest own idx y.1 host) s
theorem jm_gT {w : Cond} (h : w ∈ jm_T) : (w.onTables && w.keeps) = true ∨ ∃ ty, w = .arrayClass ty := good_of_word (List.mem_filter.mp h).2
theorem jm_gW {y : jm_I} {n : Nat} (h : jm_cw y n) : GoodIn (jm_ws i) (jm_ws y) := by
  intro w hw
  have h1 : w ∈ jm_T := by
    rcases List.mem_cons.mp hw with rfl | h2
    · exact h.1
    · exact h2
  exact ⟨List.mem_cons_of_mem _ h1, jm_gT h1⟩
theorem jm_blind {As : List Value} : FrameBlind (va_Pc As (jm_B g mu)) := by
  intro a U fr mk q
  obtain ⟨q0, qK, qP, qok, qZ, qm⟩ := q
  refine ⟨q0, va_K.moved (u := U) (U := U.calling fr mk a) (Vm.Alike.refl U.vm) qK, qP, qok, ?_, qm⟩
  exact qok.2 U _ qZ (State.WarmedH.refl U) ⟨Nat.le_refl _, fun _ _ _ => rfl⟩
theorem jm_preS {p : Program} {m : MethodId} {c : Code} {s : State} {args : Array Value} {meth : Method} {H : Heap} {locs : List Loc} {As : List Value} (C : jm_C p m c i s args meth g) (hP : va_P g.2.1 jm_cl (jm_w g mu) H) (hS : va_S (jm_A g) s.heap H locs) (hm : jm_mr mu) : PreS s H (va_Pc As (jm_B g mu)) As := by
  refine ⟨jm_blind, fun U hU hW => ⟨rfl, va_K.moved hW.alike C.2.2.2.1, by rw [hU]; exact hP, C.2.2.2.2.1, ?_, hm⟩⟩
  exact C.2.2.2.2.1.2 s U C.2.2.2.2.2 hW (hS.F hU)
theorem jm_back {As : List Value} {y : jm_I} {d0 : Nat} {p : Program} {e : Env} {m : MethodId} {c : Code} {s : State} {args : Array Value} {below : List Frame} {meth : Method} {H : Heap} {locs : List Loc} {ls : Array Slot} {stk st : List Value} {a : Array Value} {Q1 : Option Value → jm_M → Prop} {q : State → Prop}
    (hr : va_Run p l e (jm_rm d) s m args below meth c H locs 0 0 0 0 (F0 m pc ls stk) (st.map (jm_tv g)) (jm_Q g Q1 a) (jm_A g)) (hS : va_S (jm_A g) s.heap H locs)
    (k : ∀ (r : Option Value) (mu1 : jm_M) (H1 : Heap) (locs1 : List Loc), Q1 r mu1 → jm_mr mu1 → va_P g.2.1 jm_cl (jm_w g mu1) H1 → va_S (jm_A g) s.heap H1 locs1 → W p l e (jm_rm d) s m args below meth c H1 locs1 0 0 q (F0 m (pc + 3) ls ((r.toList ++ st).map (jm_tv g)))) : W p l e (jm_rm d) s m args below meth c H locs 0 0 q (F0 m pc ls stk) := by
  intro T hT X
  obtain ⟨v, st₀, t, T', L, h0, X', hL, e1, e2, ⟨⟨r, mu1, hv, hq, hP1, hm1⟩, hz, hk⟩, stp⟩ := hr T hT X
  cases hv
  rw [h0] at hz hk
  obtain ⟨t2, a1, b1⟩ := k r mu1 T'.heap (locs ++ L) hq hm1 (by rw [e1]; exact hP1) ⟨Nat.le_trans hS.1 (by rw [e1]; exact hz), fun q h1 h2 => by rw [e1, hk q (Nat.lt_of_lt_of_le h1 hS.1) h2]; exact hS.2.1 q h1 h2, fun q hq => by
      rcases List.mem_append.mp hq with h | h
      · exact hS.2.2 q h
      · exact hL q h⟩ T' rfl X'
  refine ⟨t2, stp t2 ?_, b1⟩
  have e3 : (r.map (jm_tv g)).toList ++ st.map (jm_tv g) = (r.toList ++ st).map (jm_tv g) := by cases r <;> rfl
  rw [e3]
  exact a1
theorem jm_sum {st : List Value} (h : (st.map fun v => v.category).sum ≤ 8) : ((st.map (jm_tv g)).map fun v => v.category).sum ≤ 8 := by
  have e : ((st.map (jm_tv g)).map fun v => v.category) = st.map fun v => v.category := by
    rw [List.map_map]
    apply List.map_congr_left
    intro v _
    exact jm_cat g v
  rw [e]
  exact h
theorem jm_callv {stk As : List Value} {b ci n idx : Nat} {fs : List (Option Nat)} {Q1 : Option Value → jm_M → Prop} (y : jm_I) (hd : decode i.2.1 pc = .ok (.invokevirtual idx, 3)) (hL : jm_mv i.1.cls idx y n) (hy : g.1[b]? = some (.inr (.inr (.inr (ci, fs))))) (hc : ∃ q : vw_C, jm_cl[ci]? = some q ∧ q.1 = y.1.cls) (hst : stk = As.reverse ++ .ref b :: st) (hn : As.length = n) (hcat : (st.map fun v => v.category).sum ≤ 8)
    (hr : jm_R l g d y (.ref b :: As) mu Q1) (k : ∀ r mu1, Q1 r mu1 → jm_V l g (d + 1) i (pc + 3) lv (r.toList ++ st) mu1 Q) : jm_V l g (d + 1) i pc lv stk mu Q := by
  intro p e s m args below meth c ls H locs C hl hP hS hm
  obtain ⟨d0, hd0, hM⟩ := hr
  obtain ⟨q, hq1, hq2⟩ := hc
  have hT := C.1.2.2.2.2
  have hw : ∀ {w : Cond}, w ∈ jm_T → w.before args s = true := fun h => hT _ (List.mem_cons_of_mem _ h)
  have hrecv := va_recv C.2.2.2.1 hP hq1 (jm_wa (mu := mu) hy)
  have hCB : CallB (jm_rm (d + 1)) s args i.1.cls idx y.1 y.2.1 y.2.2.1 y.2.2.2 (jm_ws y) (jm_rm d0) 0 0 n := callB_of n hT (jm_gW hL.1) rfl rfl rfl (hw hL.1.2.1) (hw hL.2.1) hL.1.2.2.1 ⟨by show d0 + 1 ≤ d + 1; omega, by have := hL.1.2.2.2; show 8 + (y.2.2.1 + 11) + 40 * d0 ≤ 40 * (d + 1); omega⟩
  have hpre := jm_preS (As := (.ref b :: As).map (jm_tv g)) C hP hS hm
  have hrun := va_runV (e := e) (below := below) (meth := meth) (g := F0 m pc ls (stk.map (jm_tv g))) (rest := st.map (jm_tv g)) (locs := locs) (cells := 0) (slots := 0) (As := As.map (jm_tv g)) (b := g.2.2.1 b) (C := y.1.cls) C.1 hM ⟨hCB, hw hL.2.2.1, hw hL.2.2.2⟩ ⟨hpre.1, by rw [← hq2]; exact hrecv, hpre.2⟩ rfl (by rw [List.length_map]; exact hn) hl.1 (by show stk.map (jm_tv g) = _; rw [hst, List.map_append, List.map_reverse]; rfl) (lv_room (jm_sum hcat)) hd ⟨Nat.zero_le _, Nat.zero_le _⟩
  exact jm_back (As := As) (y := y) (d0 := d0) hrun hS (fun r mu1 H1 locs1 hq hm1 hP1 hS1 => k r mu1 hq p e s m args below meth c ls H1 locs1 C hl hP1 hS1 hm1)
theorem jm_calls {stk As : List Value} {n idx : Nat} {Q1 : Option Value → jm_M → Prop} (y : jm_I) (hd : decode i.2.1 pc = .ok (.invokestatic idx, 3)) (hL : jm_ms i.1.cls idx y n) (hst : stk = As.reverse ++ st) (hn : As.length = n) (hcat : (st.map fun v => v.category).sum ≤ 8)
    (hr : jm_R l g d y As mu Q1) (k : ∀ r mu1, Q1 r mu1 → jm_V l g (d + 1) i (pc + 3) lv (r.toList ++ st) mu1 Q) : jm_V l g (d + 1) i pc lv stk mu Q := by
  intro p e s m args below meth c ls H locs C hl hP hS hm
  obtain ⟨d0, hd0, hM⟩ := hr
  have hT := C.1.2.2.2.2
  have hw : ∀ {w : Cond}, w ∈ jm_T → w.before args s = true := fun h => hT _ (List.mem_cons_of_mem _ h)
  have hCB : CallB (jm_rm (d + 1)) s args i.1.cls idx y.1 y.2.1 y.2.2.1 y.2.2.2 (jm_ws y) (jm_rm d0) 0 0 n := callB_of n hT (jm_gW hL.1) rfl rfl rfl (hw hL.1.2.1) (hw hL.2.1) hL.1.2.2.1 ⟨by show d0 + 1 ≤ d + 1; omega, by have := hL.1.2.2.2; show 8 + (y.2.2.1 + 11) + 40 * d0 ≤ 40 * (d + 1); omega⟩
  have hpre := jm_preS (As := As.map (jm_tv g)) C hP hS hm
  have hrun := va_runS (e := e) (below := below) (meth := meth) (g := F0 m pc ls (stk.map (jm_tv g))) (rest := st.map (jm_tv g)) (locs := locs) (cells := 0) (slots := 0) (As := As.map (jm_tv g)) C.1 hM ⟨hCB, hw hL.2.2⟩ hpre rfl (by rw [List.length_map]; exact hn) hl.1 (by show stk.map (jm_tv g) = _; rw [hst, List.map_append, List.map_reverse]) (lv_room (jm_sum hcat)) hd ⟨Nat.zero_le _, Nat.zero_le _⟩
  exact jm_back (As := As) (y := y) (d0 := d0) hrun hS (fun r mu1 H1 locs1 hq hm1 hP1 hS1 => k r mu1 hq p e s m args below meth c ls H1 locs1 C hl hP1 hS1 hm1)
theorem jm_calln {stk As : List Value} {n idx : Nat} {host : String} {Q1 : Option Value → jm_M → Prop} (y : jm_I) (hd : decode i.2.1 pc = .ok (.invokestatic idx, 3)) (hL : jm_mn g i.1.cls idx y host n) (hst : stk = As.reverse ++ st) (hn : As.length = n) (hcat : (st.map fun v => v.category).sum ≤ 8)
    (hr : jm_R l g d y As mu Q1) (k : ∀ r mu1, Q1 r mu1 → jm_V l g (d + 1) i (pc + 3) lv (r.toList ++ st) mu1 Q) : jm_V l g (d + 1) i pc lv stk mu Q := by
  intro p e s m args below meth c ls H locs C hl hP hS hm
  obtain ⟨d0, hd0, hM⟩ := hr
  have hT := C.1.2.2.2.2
  have hw : ∀ {w : Cond}, w ∈ jm_T → w.before args s = true := fun h => hT _ (List.mem_cons_of_mem _ h)
  have hCN : va_CN (jm_rm (d + 1)) s args i.1.cls idx y.1 host y.2.1 y.2.2.1 y.2.2.2 (jm_ws y) (jm_rm d0) 0 0 n := va_cnB n hT (jm_gW hL.1) rfl rfl rfl (hL.2.2 s C.2.2.2.2.2) (hw hL.1.2.1) hL.1.2.2.1 ⟨by show d0 + 1 ≤ d + 1; omega, by have := hL.1.2.2.2; show 8 + (y.2.2.1 + 11) + 40 * d0 ≤ 40 * (d + 1); omega⟩
  have hpre := jm_preS (As := As.map (jm_tv g)) C hP hS hm
  have hrun := va_runSN (e := e) (below := below) (meth := meth) (g := F0 m pc ls (stk.map (jm_tv g))) (rest := st.map (jm_tv g)) (locs := locs) (cells := 0) (slots := 0) (As := As.map (jm_tv g)) C.1 hM ⟨hCN, hw hL.2.1, trivial⟩ hpre rfl (by rw [List.length_map]; exact hn) hl.1 (by show stk.map (jm_tv g) = _; rw [hst, List.map_append, List.map_reverse]) (lv_room (jm_sum hcat)) hd ⟨Nat.zero_le _, Nat.zero_le _⟩
  exact jm_back (As := As) (y := y) (d0 := d0) hrun hS (fun r mu1 H1 locs1 hq hm1 hP1 hS1 => k r mu1 hq p e s m args below meth c ls H1 locs1 C hl hP1 hS1 hm1)
/-! Math and arraycopy -/
def jm_mth (own : String) (idx : Nat) (nm : MethodName) (bc : ByteArray) (n : Nat) : Prop := Cond.methodLink own idx nm ∈ jm_T ∧ Cond.static nm ∈ jm_T ∧ Cond.initialized "java/lang/Math" ∈ jm_T ∧ Cond.code nm bc n (some .int) ∈ jm_T
theorem jm_mmax {a b : Int} {idx : Nat} (hd : decode i.2.1 pc = .ok (.invokestatic idx, 3)) (hL : jm_mth i.1.cls idx Lib.Math.max.name Lib.Math.max.code 2) (ha : jm_rg a) (hb : jm_rg b) (hcat : (st.map fun v => v.category).sum ≤ 8) (k : jm_V l g (d + 1) i (pc + 3) lv (jm_i (max a b) :: st) mu Q) : jm_V l g (d + 1) i pc lv (jm_i b :: jm_i a :: st) mu Q := by
  intro p e s m args below meth c ls H locs C hl hP hS hm
  have hw : ∀ {w : Cond}, w ∈ jm_T → w.before args s = true := fun h => C.1.2.2.2.2 _ (List.mem_cons_of_mem _ h)
  refine va_mmax (x := Int32.ofInt a) (y := Int32.ofInt b) C.1.1 C.1.2.1 (C.1.2.2.1.trans hl.1.symm) C.1.2.2.2.1 (hw hL.1) (hw hL.2.1) (hw hL.2.2.1) (hw hL.2.2.2) (by show 1 ≤ d + 1; omega) (by have := jm_sum (g := g) hcat; show _ + 13 ≤ 40 * (d + 1); omega) (Nat.zero_le _) (Nat.zero_le _) hd ?_
  have e1 : (if Int32.ofInt a < Int32.ofInt b then Int32.ofInt b else Int32.ofInt a) = Int32.ofInt (max a b) := by
    by_cases h : a < b
    · rw [if_pos ((jm_cl1 ha hb).mpr h), Int.max_eq_right (by omega)]
    · rw [if_neg (fun q => h ((jm_cl1 ha hb).mp q)), Int.max_eq_left (by omega)]
  rw [e1]
  exact k p e s m args below meth c ls H locs C hl hP hS hm
theorem jm_mmin {a b : Int} {idx : Nat} (hd : decode i.2.1 pc = .ok (.invokestatic idx, 3)) (hL : jm_mth i.1.cls idx Lib.Math.min.name Lib.Math.min.code 2) (ha : jm_rg a) (hb : jm_rg b) (hcat : (st.map fun v => v.category).sum ≤ 8) (k : jm_V l g (d + 1) i (pc + 3) lv (jm_i (min a b) :: st) mu Q) : jm_V l g (d + 1) i pc lv (jm_i b :: jm_i a :: st) mu Q := by
  intro p e s m args below meth c ls H locs C hl hP hS hm
  have hw : ∀ {w : Cond}, w ∈ jm_T → w.before args s = true := fun h => C.1.2.2.2.2 _ (List.mem_cons_of_mem _ h)
  refine va_mmin (x := Int32.ofInt a) (y := Int32.ofInt b) C.1.1 C.1.2.1 (C.1.2.2.1.trans hl.1.symm) C.1.2.2.2.1 (hw hL.1) (hw hL.2.1) (hw hL.2.2.1) (hw hL.2.2.2) (by show 1 ≤ d + 1; omega) (by have := jm_sum (g := g) hcat; show _ + 13 ≤ 40 * (d + 1); omega) (Nat.zero_le _) (Nat.zero_le _) hd ?_
  have e1 : (if Int32.ofInt b < Int32.ofInt a then Int32.ofInt b else Int32.ofInt a) = Int32.ofInt (min a b) := by
    by_cases h : b < a
    · rw [if_pos ((jm_cl1 hb ha).mpr h), Int.min_eq_right (by omega)]
    · rw [if_neg (fun q => h ((jm_cl1 hb ha).mp q)), Int.min_eq_left (by omega)]
  rw [e1]
  exact k p e s m args below meth c ls H locs C hl hP hS hm
theorem jm_mabs {a : Int} {idx : Nat} (hd : decode i.2.1 pc = .ok (.invokestatic idx, 3)) (hL : jm_mth i.1.cls idx Lib.Math.abs.name Lib.Math.abs.code 1) (ha : jm_rg a) (hcat : (st.map fun v => v.category).sum ≤ 8) (k : jm_V l g (d + 1) i (pc + 3) lv (jm_i (if 0 ≤ a then a else -a) :: st) mu Q) : jm_V l g (d + 1) i pc lv (jm_i a :: st) mu Q := by
  intro p e s m args below meth c ls H locs C hl hP hS hm
  have hw : ∀ {w : Cond}, w ∈ jm_T → w.before args s = true := fun h => C.1.2.2.2.2 _ (List.mem_cons_of_mem _ h)
  refine va_mabs (x := Int32.ofInt a) C.1.1 C.1.2.1 (C.1.2.2.1.trans hl.1.symm) C.1.2.2.2.1 (hw hL.1) (hw hL.2.1) (hw hL.2.2.1) (hw hL.2.2.2) (by show 1 ≤ d + 1; omega) (by have := jm_sum (g := g) hcat; show _ + 13 ≤ 40 * (d + 1); omega) (Nat.zero_le _) (Nat.zero_le _) hd ?_
  have e1 : (if 0 ≤ Int32.ofInt a then Int32.ofInt a else 0 - Int32.ofInt a) = Int32.ofInt (if 0 ≤ a then a else -a) := by
    show (if Int32.ofInt 0 ≤ Int32.ofInt a then Int32.ofInt a else 0 - Int32.ofInt a) = Int32.ofInt (if 0 ≤ a then a else -a)
    by_cases h : 0 ≤ a
    · rw [if_pos ((jm_cl2 jm_rg0 ha).mpr h), if_pos h]
    · rw [if_neg (fun q => h ((jm_cl2 jm_rg0 ha).mp q)), if_neg h, Int32.ofInt_neg, Int32.zero_sub]
  rw [e1]
  exact k p e s m args below meth c ls H locs C hl hP hS hm
def jm_acp (own : String) (idx : Nat) : Prop := Cond.methodLink own idx arraycopyName ∈ jm_T ∧ Cond.native arraycopyName ∈ jm_T ∧ Cond.static arraycopyName ∈ jm_T ∧ Cond.initialized "java/lang/System" ∈ jm_T
theorem jm_othc {a b : Nat} {sp dp n : Int} (j : Nat) (s : jm_S) (hj : j ≠ b) : jm_el g (jm_cp mu a sp b dp n) j s = jm_el g mu j s := by
  have h : ∀ x : Int, (jm_cp mu a sp b dp n).1 j x = mu.1 j x := fun x => by simp [jm_cp, hj]
  rcases s with n | n | rs | o
  · simp only [jm_el, h]
  · rfl
  · rfl
  · have h2 : jm_fv g (jm_cp mu a sp b dp n) j = jm_fv g mu j := by
      funext q f
      cases f with
      | none => simp only [jm_fv, h]
      | some r => rfl
    simp only [jm_el, h2]
theorem jm_copy {a b na nb idx : Nat} {sp dp n : Int} (hd : decode i.2.1 pc = .ok (.invokestatic idx, 3)) (hL : jm_acp i.1.cls idx) (ha : g.1[a]? = some (.inl na)) (hb : g.1[b]? = some (.inl nb)) (hna : na ≤ 2147483647) (hnb : nb ≤ 2147483647) (h1 : 0 ≤ sp) (h2 : 0 ≤ dp) (h3 : 0 ≤ n) (h4 : sp + n ≤ na) (h5 : dp + n ≤ nb) (hcat : (st.map fun v => v.category).sum ≤ 8)
    (k : jm_V l g (d + 1) i (pc + 3) lv st (jm_cp mu a sp b dp n) Q) : jm_V l g (d + 1) i pc lv (jm_i n :: jm_i dp :: .ref b :: jm_i sp :: .ref a :: st) mu Q := by
  intro p e s m args below meth c ls H locs C hl hP hS hm
  have hw : ∀ {w : Cond}, w ∈ jm_T → w.before args s = true := fun h => C.1.2.2.2.2 _ (List.mem_cons_of_mem _ h)
  have nl : ∀ {z : Int}, 0 ≤ z → z ≤ 2147483647 → ¬ Int32.ofInt z < 0 := fun hz hz2 q => by
    have := (jm_cl1 (b := 0) ⟨by omega, by omega⟩ jm_rg0).mp q
    omega
  have t1 := jm_tn h1 (by omega)
  have t2 := jm_tn h2 (by omega)
  have t3 := jm_tn h3 (by omega)
  refine va_copyi (sp := Int32.ofInt sp) (dp := Int32.ofInt dp) (n := Int32.ofInt n) C.1.1 C.1.2.1 (C.1.2.2.1.trans hl.1.symm) C.1.2.2.2.1 (hw hL.1) (hw hL.2.1) (hw hL.2.2.1) (hw hL.2.2.2) C.2.2.2.1 hP (jm_wd C.2.2.2.2.1) hS a b 0 0 (jm_wa ha) (jm_wa hb) rfl rfl rfl (nl h1 (by omega)) (nl h2 (by omega)) (nl h3 (by omega)) (by omega) (by omega) (fun _ _ => rfl) (by show 1 ≤ d + 1; omega) (by have := jm_sum (g := g) hcat; show _ + (nativeFrameWords "java/lang/System" "arraycopy" 5 + 11) ≤ 40 * (d + 1); have e9 : nativeFrameWords "java/lang/System" "arraycopy" 5 ≤ 20 := (by decide +kernel); omega) hd (fun H1 locs1 hP1 hD1 hS1 => ?_)
  rw [jm_ws1 (mu' := jm_cp mu a sp b dp n) hb ?_ (fun j s hj _ => jm_othc j s hj)] at hP1
  · refine k p e s m args below meth c ls H1 locs1 C hl hP1 hS1 (fun c9 i9 => ?_)
    show jm_rg (if c9 = b ∧ dp ≤ i9 ∧ i9 < dp + n then mu.1 a (sp + (i9 - dp)) else mu.1 c9 i9)
    split
    · exact hm _ _
    · exact hm _ _
  · show Sum.inl _ = Sum.inl _
    congr 4
    funext j
    show Int32.ofInt (if b = b ∧ dp ≤ (j : Int) ∧ (j : Int) < dp + n then mu.1 a (sp + (j - dp)) else mu.1 b j) = va_cpy (fun j : Nat => Int32.ofInt (mu.1 a j)) (fun j : Nat => Int32.ofInt (mu.1 b j)) (Int32.ofInt sp).toNatClampNeg (Int32.ofInt dp).toNatClampNeg (Int32.ofInt n).toNatClampNeg j
    unfold va_cpy
    by_cases hj : dp ≤ (j : Int) ∧ (j : Int) < dp + n
    · rw [if_pos ⟨rfl, hj⟩, if_pos ⟨by omega, by omega⟩]
      have e8 : (sp + ((j : Int) - dp)) = (((Int32.ofInt sp).toNatClampNeg + (j - (Int32.ofInt dp).toNatClampNeg) : Nat) : Int) := by omega
      rw [e8]
    · rw [if_neg (fun q => hj q.2), if_neg (fun q => hj ⟨by omega, by omega⟩)]
end JF
end
section
section JZ
variable {l : Launch} {g : jm_G} {d : Nat} {i : jm_I} {pc : Nat} {lv lv' : List (Nat × Value)} {st : List Value} {mu : jm_M} {Q : Option Value → jm_M → Prop}
theorem jm_ifnull {k : Nat} {off : Int} (hd : decode i.2.1 pc = .ok (.ifnull off, 3)) (kk : jm_V l g d i (pc + 3) lv st mu Q) : jm_V l g d i pc lv (.ref k :: st) mu Q :=
  fun p e s m args below meth c ls H locs C hl hP hS hm => lv_ifnull C.1.1 C.1.2.1 hd (kk p e s m args below meth c ls H locs C hl hP hS hm)
theorem jm_ifnonnull {k : Nat} {off : Int} (tgt : Nat) (hd : decode i.2.1 pc = .ok (.ifnonnull off, 3)) (ht : (pc : Int) + off = (tgt : Int)) (kk : jm_V l g d i tgt lv st mu Q) : jm_V l g d i pc lv (.ref k :: st) mu Q :=
  fun p e s m args below meth c ls H locs C hl hP hS hm => lv_ifnonnull C.1.1 C.1.2.1 hd ht (kk p e s m args below meth c ls H locs C hl hP hS hm)
theorem jm_ldcS {idx b : Nat} {tx : String} (hd : decode i.2.1 pc = .ok (.ldc idx, 2)) (hz : ∀ s : State, g.2.2.2.2 s → vk_R i.1.cls idx tx (g.2.2.1 b) s) (kk : jm_V l g d i (pc + 2) lv (.ref b :: st) mu Q) : jm_V l g d i pc lv st mu Q :=
  fun p e s m args below meth c ls H locs C hl hP hS hm => va_ldcS C.1.1 C.1.2.1 C.1.2.2.2.1 (hz s C.2.2.2.2.2) hd (kk p e s m args below meth c ls H locs C hl hP hS hm)
theorem jm_callz {stk As : List Value} {b n idx : Nat} {Q1 : Option Value → jm_M → Prop} (y : jm_I) (hd : decode i.2.1 pc = .ok (.invokevirtual idx, 3)) (hL : jm_mv i.1.cls idx y n) (hz : ∀ (s : State) (H : Heap) (locs : List Loc), g.2.2.2.2 s → va_S (jm_A g) s.heap H locs → ∃ cell : Cell, H[g.2.2.1 b]? = some cell ∧ cell.vm.isStatics = false ∧ s.vm.findClass y.1.cls = some cell.cls) (hst : stk = As.reverse ++ .ref b :: st) (hn : As.length = n) (hcat : (st.map fun v => v.category).sum ≤ 8)
    (hr : jm_R l g d y (.ref b :: As) mu Q1) (k : ∀ r mu1, Q1 r mu1 → jm_V l g (d + 1) i (pc + 3) lv (r.toList ++ st) mu1 Q) : jm_V l g (d + 1) i pc lv stk mu Q := by
  intro p e s m args below meth c ls H locs C hl hP hS hm
  obtain ⟨d0, hd0, hM⟩ := hr
  have hT := C.1.2.2.2.2
  have hw : ∀ {w : Cond}, w ∈ jm_T → w.before args s = true := fun h => hT _ (List.mem_cons_of_mem _ h)
  have hrecv := hz s H locs C.2.2.2.2.2 hS
  have hCB : CallB (jm_rm (d + 1)) s args i.1.cls idx y.1 y.2.1 y.2.2.1 y.2.2.2 (jm_ws y) (jm_rm d0) 0 0 n := callB_of n hT (jm_gW hL.1) rfl rfl rfl (hw hL.1.2.1) (hw hL.2.1) hL.1.2.2.1 ⟨by show d0 + 1 ≤ d + 1; omega, by have := hL.1.2.2.2; show 8 + (y.2.2.1 + 11) + 40 * d0 ≤ 40 * (d + 1); omega⟩
  have hpre := jm_preS (As := (.ref b :: As).map (jm_tv g)) C hP hS hm
  have hrun := va_runV (e := e) (below := below) (meth := meth) (g := F0 m pc ls (stk.map (jm_tv g))) (rest := st.map (jm_tv g)) (locs := locs) (cells := 0) (slots := 0) (As := As.map (jm_tv g)) (b := g.2.2.1 b) (C := y.1.cls) C.1 hM ⟨hCB, hw hL.2.2.1, hw hL.2.2.2⟩ ⟨hpre.1, hrecv, hpre.2⟩ rfl (by rw [List.length_map]; exact hn) hl.1 (by show stk.map (jm_tv g) = _; rw [hst, List.map_append, List.map_reverse]; rfl) (lv_room (jm_sum hcat)) hd ⟨Nat.zero_le _, Nat.zero_le _⟩
  exact jm_back (As := As) (y := y) (d0 := d0) hrun hS (fun r mu1 H1 locs1 hq hm1 hP1 hS1 => k r mu1 hq p e s m args below meth c ls H1 locs1 C hl hP1 hS1 hm1)
theorem jm_rgM {a b : Int} (ha : jm_rg a) (hb : jm_rg b) : jm_rg (max a b) := by
  obtain ⟨a1, a2⟩ := ha
  obtain ⟨b1, b2⟩ := hb
  exact ⟨by omega, by omega⟩
theorem jm_rgm {a b : Int} (ha : jm_rg a) (hb : jm_rg b) : jm_rg (min a b) := by
  obtain ⟨a1, a2⟩ := ha
  obtain ⟨b1, b2⟩ := hb
  exact ⟨by omega, by omega⟩
theorem jm_tw {n : Nat} {w : Cond} (h : tables_1[n]? = some w) (hg : goodWord w = true) : w ∈ jm_T := List.mem_filter.mpr ⟨List.mem_append_right _ (List.mem_of_getElem? h), hg⟩
theorem jm_tp {n : Nat} {q : MethodName × Nat} (h : lw_privs[n]? = some q) : Cond.selects q.1.cls q.1 q.1 ∈ jm_T := List.mem_filter.mpr ⟨List.mem_append_left _ (List.mem_map.mpr ⟨q, List.mem_of_getElem? h, rfl⟩), rfl⟩
theorem jm_up {C : String} {T : u_T} {N : Nat} (ps : List Nat) (h : ps.map (fun n => tables_1[n]?) = (u_ws C T N).map some) (hg : (u_ws C T N).all goodWord = true) : ∀ w ∈ u_ws C T N, w ∈ jm_T := by
  intro w hw
  have h1 : some w ∈ (u_ws C T N).map some := List.mem_map.mpr ⟨w, hw, rfl⟩
  rw [← h] at h1
  obtain ⟨n, -, hn⟩ := List.mem_map.mp h1
  exact jm_tw hn (List.all_eq_true.mp hg w hw)
end JZ
end
section
def jm_LC : List jm_S := [.inr (.inr (.inr (11, [some 1, some 6, some 29, some 35, some 37, some 38, some 41, some 46, some 49, some 56, some 63, some 64, some 87, none, some 93, none, none]))), .inr (.inr (.inr (7, [some 2, none, none, none, some 3, some 4, some 5, none, none]))), .inl 400, .inl 401, .inl 401, .inl 401, .inr (.inr (.inr (8, [none, some 7, some 8, some 9, some 10, none, none, none, none, some 11, some 12, some 15, some 22]))), .inl 8, .inl 8, .inl 8, .inl 48, .inl 12, .inr (.inr (.inr (5, [none, some 13, some 14]))), .inl 24, .inl 168, .inr (.inr (.inr (3, [none, none, some 16, some 17, some 18, some 19, some 20, some 21]))), .inl 400, .inl 16, .inl 16, .inl 16, .inl 16, .inl 64, .inr (.inr (.inr (6, [none, some 23, some 24, some 25, some 26, some 27, some 28, none]))), .inl 60, .inl 60, .inl 60, .inl 60, .inl 4, .inl 4, .inr (.inr (.inr (1, [none, none, some 30, some 31, none, some 32, none, some 33, none, some 34]))), .inl 8, .inl 8, .inl 140, .inl 200, .inl 600, .inr (.inr (.inr (0, [some 6, some 29, some 36]))), .inl 11, .inr (.inr (.inr (2, [some 35, some 6, some 29]))), .inr (.inr (.inr (10, [some 35, some 6, some 29, some 39, some 40]))), .inl 10, .inr (.inl 61), .inr (.inr (.inr (9, [some 35, some 6, some 29, some 42, some 43, some 44, some 45]))), .inl 4, .inl 8, .inl 24, .inl 24, .inr (.inr (.inr (5, [none, some 47, some 48]))), .inl 24, .inl 168, .inr (.inr (.inr (3, [none, none, some 50, some 51, some 52, some 53, some 54, some 55]))), .inl 400, .inl 16, .inl 16, .inl 16, .inl 16, .inl 64, .inr (.inr (.inr (6, [none, some 57, some 58, some 59, some 60, some 61, some 62, none]))), .inl 60, .inl 60, .inl 60, .inl 60, .inl 4, .inl 4, .inr (.inr (.inr (4, [some 1, some 49]))), .inr (.inr (.inr (8, [none, some 65, some 66, some 67, some 68, none, none, none, none, some 69, some 70, some 73, some 80]))), .inl 8, .inl 8, .inl 8, .inl 48, .inl 12, .inr (.inr (.inr (5, [none, some 71, some 72]))), .inl 24, .inl 168, .inr (.inr (.inr (3, [none, none, some 74, some 75, some 76, some 77, some 78, some 79]))), .inl 400, .inl 16, .inl 16, .inl 16, .inl 16, .inl 64, .inr (.inr (.inr (6, [none, some 81, some 82, some 83, some 84, some 85, some 86, none]))), .inl 60, .inl 60, .inl 60, .inl 60, .inl 4, .inl 4, .inr (.inr (.inr (1, [none, none, some 88, some 89, none, some 90, none, some 91, none, some 92]))), .inl 8, .inl 8, .inl 140, .inl 200, .inl 600, .inr (.inr (.inl [94, 100, 106, 112, 118, 124])), .inr (.inr (.inr (1, [none, none, some 95, some 96, none, some 97, none, some 98, none, some 99]))), .inl 8, .inl 8, .inl 140, .inl 200, .inl 600, .inr (.inr (.inr (1, [none, none, some 101, some 102, none, some 103, none, some 104, none, some 105]))), .inl 8, .inl 8, .inl 140, .inl 200, .inl 600, .inr (.inr (.inr (1, [none, none, some 107, some 108, none, some 109, none, some 110, none, some 111]))), .inl 8, .inl 8, .inl 140, .inl 200, .inl 600, .inr (.inr (.inr (1, [none, none, some 113, some 114, none, some 115, none, some 116, none, some 117]))), .inl 8, .inl 8, .inl 140, .inl 200, .inl 600, .inr (.inr (.inr (1, [none, none, some 119, some 120, none, some 121, none, some 122, none, some 123]))), .inl 8, .inl 8, .inl 140, .inl 200, .inl 600, .inr (.inr (.inr (1, [none, none, some 125, some 126, none, some 127, none, some 128, none, some 129]))), .inl 8, .inl 8, .inl 140, .inl 200, .inl 600]
def jm_LR : List jm_S := [.inr (.inr (.inr (12, [none, some 1, some 2, none, none, some 3, some 4, some 5, some 6, none, none, none, some 7, none, none, none, none, none, some 8, some 9, some 10, some 11, some 12, some 13, some 14, some 15, none, none, none, some 16, none, none, none, none, none, none, some 17, some 18, none, none, some 19, some 20, some 21, some 22, some 23, some 24, some 25, some 26, none, none, none, some 27, none, some 28, some 29, none, none, none, some 30]))), .inl 22, .inl 132, .inl 8, .inl 8, .inl 8, .inl 48, .inl 400, .inl 143, .inl 2, .inl 48, .inl 48, .inl 48, .inl 48, .inl 1200, .inl 1200, .inl 40, .inl 384, .inl 800, .inl 480, .inl 4, .inl 4, .inl 11, .inl 420, .inl 120, .inl 200, .inl 600, .inl 10, .inl 12, .inl 24, .inl 2700]
def jm_NW : List Cond := [.methodLinkNest RX7 51 yX11_isWithin "SungEvidence", .methodLinkNest RX4 32 yX11_isWithin "SungEvidence", .methodLinkNest RX6 94 yX11_isWithin "SungEvidence", .methodLinkNest RX8 84 yX11_isFact "SungEvidence", .methodLinkNest RX5 30 yX11_isWithin "SungEvidence", .methodLinkNest RX0 62 yX11_isWithin "SungEvidence", .methodLinkNest RX0 80 yX11_held "SungEvidence", .methodLinkNest RX1 59 yX11_isWithin "SungEvidence"]
def jm_SW : List (Nat × String) := [(55, "motive up down same "), (57, "slip shake weight when or and not nerve hoarse breath bar note room fact value day sung slips "), (59, "call on in cross rest again ")]
/-- the class's world: its cells, the links of nest mates, the string constants -/
def jm_HC (g : jm_G) : Prop := g.1 = jm_LC ∧ (∀ w ∈ jm_NW, ∀ s : State, g.2.2.2.2 s → va_Nw w s) ∧ (∀ (k : Nat) (q : Nat × String), jm_SW[k]? = some q → ∀ s : State, g.2.2.2.2 s → vk_R RX7 q.1 q.2 (g.2.2.1 (1000 + k)) s) ∧ ∀ k, k < 3 → ∀ (s : State) (H : Heap) (locs : List Loc), g.2.2.2.2 s → va_S (jm_A g) s.heap H locs → ∃ cell : Cell, H[g.2.2.1 (1000 + k)]? = some cell ∧ cell.vm.isStatics = false ∧ s.vm.findClass "java/lang/String" = some cell.cls
def jm_HR (g : jm_G) : Prop := g.1 = jm_LR
theorem cC0 {g : jm_G} (hg : jm_HC g) : g.1[0]? = some (.inr (.inr (.inr (11, [some 1, some 6, some 29, some 35, some 37, some 38, some 41, some 46, some 49, some 56, some 63, some 64, some 87, none, some 93, none, none])))) := by rw [hg.1]; rfl
theorem cC1 {g : jm_G} (hg : jm_HC g) : g.1[1]? = some (.inr (.inr (.inr (7, [some 2, none, none, none, some 3, some 4, some 5, none, none])))) := by rw [hg.1]; rfl
theorem cC2 {g : jm_G} (hg : jm_HC g) : g.1[2]? = some (.inl 400) := by rw [hg.1]; rfl
theorem cC3 {g : jm_G} (hg : jm_HC g) : g.1[3]? = some (.inl 401) := by rw [hg.1]; rfl
theorem cC4 {g : jm_G} (hg : jm_HC g) : g.1[4]? = some (.inl 401) := by rw [hg.1]; rfl
theorem cC5 {g : jm_G} (hg : jm_HC g) : g.1[5]? = some (.inl 401) := by rw [hg.1]; rfl
theorem cC6 {g : jm_G} (hg : jm_HC g) : g.1[6]? = some (.inr (.inr (.inr (8, [none, some 7, some 8, some 9, some 10, none, none, none, none, some 11, some 12, some 15, some 22])))) := by rw [hg.1]; rfl
theorem cC7 {g : jm_G} (hg : jm_HC g) : g.1[7]? = some (.inl 8) := by rw [hg.1]; rfl
theorem cC8 {g : jm_G} (hg : jm_HC g) : g.1[8]? = some (.inl 8) := by rw [hg.1]; rfl
theorem cC9 {g : jm_G} (hg : jm_HC g) : g.1[9]? = some (.inl 8) := by rw [hg.1]; rfl
theorem cC10 {g : jm_G} (hg : jm_HC g) : g.1[10]? = some (.inl 48) := by rw [hg.1]; rfl
theorem cC11 {g : jm_G} (hg : jm_HC g) : g.1[11]? = some (.inl 12) := by rw [hg.1]; rfl
theorem cC12 {g : jm_G} (hg : jm_HC g) : g.1[12]? = some (.inr (.inr (.inr (5, [none, some 13, some 14])))) := by rw [hg.1]; rfl
theorem cC13 {g : jm_G} (hg : jm_HC g) : g.1[13]? = some (.inl 24) := by rw [hg.1]; rfl
theorem cC14 {g : jm_G} (hg : jm_HC g) : g.1[14]? = some (.inl 168) := by rw [hg.1]; rfl
theorem cC15 {g : jm_G} (hg : jm_HC g) : g.1[15]? = some (.inr (.inr (.inr (3, [none, none, some 16, some 17, some 18, some 19, some 20, some 21])))) := by rw [hg.1]; rfl
theorem cC16 {g : jm_G} (hg : jm_HC g) : g.1[16]? = some (.inl 400) := by rw [hg.1]; rfl
theorem cC17 {g : jm_G} (hg : jm_HC g) : g.1[17]? = some (.inl 16) := by rw [hg.1]; rfl
theorem cC18 {g : jm_G} (hg : jm_HC g) : g.1[18]? = some (.inl 16) := by rw [hg.1]; rfl
theorem cC19 {g : jm_G} (hg : jm_HC g) : g.1[19]? = some (.inl 16) := by rw [hg.1]; rfl
theorem cC20 {g : jm_G} (hg : jm_HC g) : g.1[20]? = some (.inl 16) := by rw [hg.1]; rfl
theorem cC21 {g : jm_G} (hg : jm_HC g) : g.1[21]? = some (.inl 64) := by rw [hg.1]; rfl
theorem cC22 {g : jm_G} (hg : jm_HC g) : g.1[22]? = some (.inr (.inr (.inr (6, [none, some 23, some 24, some 25, some 26, some 27, some 28, none])))) := by rw [hg.1]; rfl
theorem cC23 {g : jm_G} (hg : jm_HC g) : g.1[23]? = some (.inl 60) := by rw [hg.1]; rfl
theorem cC24 {g : jm_G} (hg : jm_HC g) : g.1[24]? = some (.inl 60) := by rw [hg.1]; rfl
theorem cC25 {g : jm_G} (hg : jm_HC g) : g.1[25]? = some (.inl 60) := by rw [hg.1]; rfl
theorem cC26 {g : jm_G} (hg : jm_HC g) : g.1[26]? = some (.inl 60) := by rw [hg.1]; rfl
theorem cC27 {g : jm_G} (hg : jm_HC g) : g.1[27]? = some (.inl 4) := by rw [hg.1]; rfl
theorem cC28 {g : jm_G} (hg : jm_HC g) : g.1[28]? = some (.inl 4) := by rw [hg.1]; rfl
theorem cC29 {g : jm_G} (hg : jm_HC g) : g.1[29]? = some (.inr (.inr (.inr (1, [none, none, some 30, some 31, none, some 32, none, some 33, none, some 34])))) := by rw [hg.1]; rfl
theorem cC30 {g : jm_G} (hg : jm_HC g) : g.1[30]? = some (.inl 8) := by rw [hg.1]; rfl
theorem cC31 {g : jm_G} (hg : jm_HC g) : g.1[31]? = some (.inl 8) := by rw [hg.1]; rfl
theorem cC32 {g : jm_G} (hg : jm_HC g) : g.1[32]? = some (.inl 140) := by rw [hg.1]; rfl
theorem cC33 {g : jm_G} (hg : jm_HC g) : g.1[33]? = some (.inl 200) := by rw [hg.1]; rfl
theorem cC34 {g : jm_G} (hg : jm_HC g) : g.1[34]? = some (.inl 600) := by rw [hg.1]; rfl
theorem cC35 {g : jm_G} (hg : jm_HC g) : g.1[35]? = some (.inr (.inr (.inr (0, [some 6, some 29, some 36])))) := by rw [hg.1]; rfl
theorem cC36 {g : jm_G} (hg : jm_HC g) : g.1[36]? = some (.inl 11) := by rw [hg.1]; rfl
theorem cC37 {g : jm_G} (hg : jm_HC g) : g.1[37]? = some (.inr (.inr (.inr (2, [some 35, some 6, some 29])))) := by rw [hg.1]; rfl
theorem cC38 {g : jm_G} (hg : jm_HC g) : g.1[38]? = some (.inr (.inr (.inr (10, [some 35, some 6, some 29, some 39, some 40])))) := by rw [hg.1]; rfl
theorem cC39 {g : jm_G} (hg : jm_HC g) : g.1[39]? = some (.inl 10) := by rw [hg.1]; rfl
theorem cC40 {g : jm_G} (hg : jm_HC g) : g.1[40]? = some (.inr (.inl 61)) := by rw [hg.1]; rfl
theorem cC41 {g : jm_G} (hg : jm_HC g) : g.1[41]? = some (.inr (.inr (.inr (9, [some 35, some 6, some 29, some 42, some 43, some 44, some 45])))) := by rw [hg.1]; rfl
theorem cC42 {g : jm_G} (hg : jm_HC g) : g.1[42]? = some (.inl 4) := by rw [hg.1]; rfl
theorem cC43 {g : jm_G} (hg : jm_HC g) : g.1[43]? = some (.inl 8) := by rw [hg.1]; rfl
theorem cC44 {g : jm_G} (hg : jm_HC g) : g.1[44]? = some (.inl 24) := by rw [hg.1]; rfl
theorem cC45 {g : jm_G} (hg : jm_HC g) : g.1[45]? = some (.inl 24) := by rw [hg.1]; rfl
theorem cC46 {g : jm_G} (hg : jm_HC g) : g.1[46]? = some (.inr (.inr (.inr (5, [none, some 47, some 48])))) := by rw [hg.1]; rfl
theorem cC47 {g : jm_G} (hg : jm_HC g) : g.1[47]? = some (.inl 24) := by rw [hg.1]; rfl
theorem cC48 {g : jm_G} (hg : jm_HC g) : g.1[48]? = some (.inl 168) := by rw [hg.1]; rfl
theorem cC49 {g : jm_G} (hg : jm_HC g) : g.1[49]? = some (.inr (.inr (.inr (3, [none, none, some 50, some 51, some 52, some 53, some 54, some 55])))) := by rw [hg.1]; rfl
theorem cC50 {g : jm_G} (hg : jm_HC g) : g.1[50]? = some (.inl 400) := by rw [hg.1]; rfl
theorem cC51 {g : jm_G} (hg : jm_HC g) : g.1[51]? = some (.inl 16) := by rw [hg.1]; rfl
theorem cC52 {g : jm_G} (hg : jm_HC g) : g.1[52]? = some (.inl 16) := by rw [hg.1]; rfl
theorem cC53 {g : jm_G} (hg : jm_HC g) : g.1[53]? = some (.inl 16) := by rw [hg.1]; rfl
theorem cC54 {g : jm_G} (hg : jm_HC g) : g.1[54]? = some (.inl 16) := by rw [hg.1]; rfl
theorem cC55 {g : jm_G} (hg : jm_HC g) : g.1[55]? = some (.inl 64) := by rw [hg.1]; rfl
theorem cC56 {g : jm_G} (hg : jm_HC g) : g.1[56]? = some (.inr (.inr (.inr (6, [none, some 57, some 58, some 59, some 60, some 61, some 62, none])))) := by rw [hg.1]; rfl
theorem cC57 {g : jm_G} (hg : jm_HC g) : g.1[57]? = some (.inl 60) := by rw [hg.1]; rfl
theorem cC58 {g : jm_G} (hg : jm_HC g) : g.1[58]? = some (.inl 60) := by rw [hg.1]; rfl
theorem cC59 {g : jm_G} (hg : jm_HC g) : g.1[59]? = some (.inl 60) := by rw [hg.1]; rfl
theorem cC60 {g : jm_G} (hg : jm_HC g) : g.1[60]? = some (.inl 60) := by rw [hg.1]; rfl
theorem cC61 {g : jm_G} (hg : jm_HC g) : g.1[61]? = some (.inl 4) := by rw [hg.1]; rfl
theorem cC62 {g : jm_G} (hg : jm_HC g) : g.1[62]? = some (.inl 4) := by rw [hg.1]; rfl
theorem cC63 {g : jm_G} (hg : jm_HC g) : g.1[63]? = some (.inr (.inr (.inr (4, [some 1, some 49])))) := by rw [hg.1]; rfl
theorem cC64 {g : jm_G} (hg : jm_HC g) : g.1[64]? = some (.inr (.inr (.inr (8, [none, some 65, some 66, some 67, some 68, none, none, none, none, some 69, some 70, some 73, some 80])))) := by rw [hg.1]; rfl
theorem cC65 {g : jm_G} (hg : jm_HC g) : g.1[65]? = some (.inl 8) := by rw [hg.1]; rfl
theorem cC66 {g : jm_G} (hg : jm_HC g) : g.1[66]? = some (.inl 8) := by rw [hg.1]; rfl
theorem cC67 {g : jm_G} (hg : jm_HC g) : g.1[67]? = some (.inl 8) := by rw [hg.1]; rfl
theorem cC68 {g : jm_G} (hg : jm_HC g) : g.1[68]? = some (.inl 48) := by rw [hg.1]; rfl
theorem cC69 {g : jm_G} (hg : jm_HC g) : g.1[69]? = some (.inl 12) := by rw [hg.1]; rfl
theorem cC70 {g : jm_G} (hg : jm_HC g) : g.1[70]? = some (.inr (.inr (.inr (5, [none, some 71, some 72])))) := by rw [hg.1]; rfl
theorem cC71 {g : jm_G} (hg : jm_HC g) : g.1[71]? = some (.inl 24) := by rw [hg.1]; rfl
theorem cC72 {g : jm_G} (hg : jm_HC g) : g.1[72]? = some (.inl 168) := by rw [hg.1]; rfl
theorem cC73 {g : jm_G} (hg : jm_HC g) : g.1[73]? = some (.inr (.inr (.inr (3, [none, none, some 74, some 75, some 76, some 77, some 78, some 79])))) := by rw [hg.1]; rfl
theorem cC74 {g : jm_G} (hg : jm_HC g) : g.1[74]? = some (.inl 400) := by rw [hg.1]; rfl
theorem cC75 {g : jm_G} (hg : jm_HC g) : g.1[75]? = some (.inl 16) := by rw [hg.1]; rfl
theorem cC76 {g : jm_G} (hg : jm_HC g) : g.1[76]? = some (.inl 16) := by rw [hg.1]; rfl
theorem cC77 {g : jm_G} (hg : jm_HC g) : g.1[77]? = some (.inl 16) := by rw [hg.1]; rfl
theorem cC78 {g : jm_G} (hg : jm_HC g) : g.1[78]? = some (.inl 16) := by rw [hg.1]; rfl
theorem cC79 {g : jm_G} (hg : jm_HC g) : g.1[79]? = some (.inl 64) := by rw [hg.1]; rfl
theorem cC80 {g : jm_G} (hg : jm_HC g) : g.1[80]? = some (.inr (.inr (.inr (6, [none, some 81, some 82, some 83, some 84, some 85, some 86, none])))) := by rw [hg.1]; rfl
theorem cC81 {g : jm_G} (hg : jm_HC g) : g.1[81]? = some (.inl 60) := by rw [hg.1]; rfl
theorem cC82 {g : jm_G} (hg : jm_HC g) : g.1[82]? = some (.inl 60) := by rw [hg.1]; rfl
theorem cC83 {g : jm_G} (hg : jm_HC g) : g.1[83]? = some (.inl 60) := by rw [hg.1]; rfl
theorem cC84 {g : jm_G} (hg : jm_HC g) : g.1[84]? = some (.inl 60) := by rw [hg.1]; rfl
theorem cC85 {g : jm_G} (hg : jm_HC g) : g.1[85]? = some (.inl 4) := by rw [hg.1]; rfl
theorem cC86 {g : jm_G} (hg : jm_HC g) : g.1[86]? = some (.inl 4) := by rw [hg.1]; rfl
theorem cC87 {g : jm_G} (hg : jm_HC g) : g.1[87]? = some (.inr (.inr (.inr (1, [none, none, some 88, some 89, none, some 90, none, some 91, none, some 92])))) := by rw [hg.1]; rfl
theorem cC88 {g : jm_G} (hg : jm_HC g) : g.1[88]? = some (.inl 8) := by rw [hg.1]; rfl
theorem cC89 {g : jm_G} (hg : jm_HC g) : g.1[89]? = some (.inl 8) := by rw [hg.1]; rfl
theorem cC90 {g : jm_G} (hg : jm_HC g) : g.1[90]? = some (.inl 140) := by rw [hg.1]; rfl
theorem cC91 {g : jm_G} (hg : jm_HC g) : g.1[91]? = some (.inl 200) := by rw [hg.1]; rfl
theorem cC92 {g : jm_G} (hg : jm_HC g) : g.1[92]? = some (.inl 600) := by rw [hg.1]; rfl
theorem cC93 {g : jm_G} (hg : jm_HC g) : g.1[93]? = some (.inr (.inr (.inl [94, 100, 106, 112, 118, 124]))) := by rw [hg.1]; rfl
theorem cC94 {g : jm_G} (hg : jm_HC g) : g.1[94]? = some (.inr (.inr (.inr (1, [none, none, some 95, some 96, none, some 97, none, some 98, none, some 99])))) := by rw [hg.1]; rfl
theorem cC95 {g : jm_G} (hg : jm_HC g) : g.1[95]? = some (.inl 8) := by rw [hg.1]; rfl
theorem cC96 {g : jm_G} (hg : jm_HC g) : g.1[96]? = some (.inl 8) := by rw [hg.1]; rfl
theorem cC97 {g : jm_G} (hg : jm_HC g) : g.1[97]? = some (.inl 140) := by rw [hg.1]; rfl
theorem cC98 {g : jm_G} (hg : jm_HC g) : g.1[98]? = some (.inl 200) := by rw [hg.1]; rfl
theorem cC99 {g : jm_G} (hg : jm_HC g) : g.1[99]? = some (.inl 600) := by rw [hg.1]; rfl
theorem cC100 {g : jm_G} (hg : jm_HC g) : g.1[100]? = some (.inr (.inr (.inr (1, [none, none, some 101, some 102, none, some 103, none, some 104, none, some 105])))) := by rw [hg.1]; rfl
theorem cC101 {g : jm_G} (hg : jm_HC g) : g.1[101]? = some (.inl 8) := by rw [hg.1]; rfl
theorem cC102 {g : jm_G} (hg : jm_HC g) : g.1[102]? = some (.inl 8) := by rw [hg.1]; rfl
theorem cC103 {g : jm_G} (hg : jm_HC g) : g.1[103]? = some (.inl 140) := by rw [hg.1]; rfl
theorem cC104 {g : jm_G} (hg : jm_HC g) : g.1[104]? = some (.inl 200) := by rw [hg.1]; rfl
theorem cC105 {g : jm_G} (hg : jm_HC g) : g.1[105]? = some (.inl 600) := by rw [hg.1]; rfl
theorem cC106 {g : jm_G} (hg : jm_HC g) : g.1[106]? = some (.inr (.inr (.inr (1, [none, none, some 107, some 108, none, some 109, none, some 110, none, some 111])))) := by rw [hg.1]; rfl
theorem cC107 {g : jm_G} (hg : jm_HC g) : g.1[107]? = some (.inl 8) := by rw [hg.1]; rfl
theorem cC108 {g : jm_G} (hg : jm_HC g) : g.1[108]? = some (.inl 8) := by rw [hg.1]; rfl
theorem cC109 {g : jm_G} (hg : jm_HC g) : g.1[109]? = some (.inl 140) := by rw [hg.1]; rfl
theorem cC110 {g : jm_G} (hg : jm_HC g) : g.1[110]? = some (.inl 200) := by rw [hg.1]; rfl
theorem cC111 {g : jm_G} (hg : jm_HC g) : g.1[111]? = some (.inl 600) := by rw [hg.1]; rfl
theorem cC112 {g : jm_G} (hg : jm_HC g) : g.1[112]? = some (.inr (.inr (.inr (1, [none, none, some 113, some 114, none, some 115, none, some 116, none, some 117])))) := by rw [hg.1]; rfl
theorem cC113 {g : jm_G} (hg : jm_HC g) : g.1[113]? = some (.inl 8) := by rw [hg.1]; rfl
theorem cC114 {g : jm_G} (hg : jm_HC g) : g.1[114]? = some (.inl 8) := by rw [hg.1]; rfl
theorem cC115 {g : jm_G} (hg : jm_HC g) : g.1[115]? = some (.inl 140) := by rw [hg.1]; rfl
theorem cC116 {g : jm_G} (hg : jm_HC g) : g.1[116]? = some (.inl 200) := by rw [hg.1]; rfl
theorem cC117 {g : jm_G} (hg : jm_HC g) : g.1[117]? = some (.inl 600) := by rw [hg.1]; rfl
theorem cC118 {g : jm_G} (hg : jm_HC g) : g.1[118]? = some (.inr (.inr (.inr (1, [none, none, some 119, some 120, none, some 121, none, some 122, none, some 123])))) := by rw [hg.1]; rfl
theorem cC119 {g : jm_G} (hg : jm_HC g) : g.1[119]? = some (.inl 8) := by rw [hg.1]; rfl
theorem cC120 {g : jm_G} (hg : jm_HC g) : g.1[120]? = some (.inl 8) := by rw [hg.1]; rfl
theorem cC121 {g : jm_G} (hg : jm_HC g) : g.1[121]? = some (.inl 140) := by rw [hg.1]; rfl
theorem cC122 {g : jm_G} (hg : jm_HC g) : g.1[122]? = some (.inl 200) := by rw [hg.1]; rfl
theorem cC123 {g : jm_G} (hg : jm_HC g) : g.1[123]? = some (.inl 600) := by rw [hg.1]; rfl
theorem cC124 {g : jm_G} (hg : jm_HC g) : g.1[124]? = some (.inr (.inr (.inr (1, [none, none, some 125, some 126, none, some 127, none, some 128, none, some 129])))) := by rw [hg.1]; rfl
theorem cC125 {g : jm_G} (hg : jm_HC g) : g.1[125]? = some (.inl 8) := by rw [hg.1]; rfl
theorem cC126 {g : jm_G} (hg : jm_HC g) : g.1[126]? = some (.inl 8) := by rw [hg.1]; rfl
theorem cC127 {g : jm_G} (hg : jm_HC g) : g.1[127]? = some (.inl 140) := by rw [hg.1]; rfl
theorem cC128 {g : jm_G} (hg : jm_HC g) : g.1[128]? = some (.inl 200) := by rw [hg.1]; rfl
theorem cC129 {g : jm_G} (hg : jm_HC g) : g.1[129]? = some (.inl 600) := by rw [hg.1]; rfl
theorem cR0 {g : jm_G} (hg : jm_HR g) : g.1[0]? = some (.inr (.inr (.inr (12, [none, some 1, some 2, none, none, some 3, some 4, some 5, some 6, none, none, none, some 7, none, none, none, none, none, some 8, some 9, some 10, some 11, some 12, some 13, some 14, some 15, none, none, none, some 16, none, none, none, none, none, none, some 17, some 18, none, none, some 19, some 20, some 21, some 22, some 23, some 24, some 25, some 26, none, none, none, some 27, none, some 28, some 29, none, none, none, some 30])))) := by rw [show g.1 = jm_LR from hg]; rfl
theorem cR1 {g : jm_G} (hg : jm_HR g) : g.1[1]? = some (.inl 22) := by rw [show g.1 = jm_LR from hg]; rfl
theorem cR2 {g : jm_G} (hg : jm_HR g) : g.1[2]? = some (.inl 132) := by rw [show g.1 = jm_LR from hg]; rfl
theorem cR3 {g : jm_G} (hg : jm_HR g) : g.1[3]? = some (.inl 8) := by rw [show g.1 = jm_LR from hg]; rfl
theorem cR4 {g : jm_G} (hg : jm_HR g) : g.1[4]? = some (.inl 8) := by rw [show g.1 = jm_LR from hg]; rfl
theorem cR5 {g : jm_G} (hg : jm_HR g) : g.1[5]? = some (.inl 8) := by rw [show g.1 = jm_LR from hg]; rfl
theorem cR6 {g : jm_G} (hg : jm_HR g) : g.1[6]? = some (.inl 48) := by rw [show g.1 = jm_LR from hg]; rfl
theorem cR7 {g : jm_G} (hg : jm_HR g) : g.1[7]? = some (.inl 400) := by rw [show g.1 = jm_LR from hg]; rfl
theorem cR8 {g : jm_G} (hg : jm_HR g) : g.1[8]? = some (.inl 143) := by rw [show g.1 = jm_LR from hg]; rfl
theorem cR9 {g : jm_G} (hg : jm_HR g) : g.1[9]? = some (.inl 2) := by rw [show g.1 = jm_LR from hg]; rfl
theorem cR10 {g : jm_G} (hg : jm_HR g) : g.1[10]? = some (.inl 48) := by rw [show g.1 = jm_LR from hg]; rfl
theorem cR11 {g : jm_G} (hg : jm_HR g) : g.1[11]? = some (.inl 48) := by rw [show g.1 = jm_LR from hg]; rfl
theorem cR12 {g : jm_G} (hg : jm_HR g) : g.1[12]? = some (.inl 48) := by rw [show g.1 = jm_LR from hg]; rfl
theorem cR13 {g : jm_G} (hg : jm_HR g) : g.1[13]? = some (.inl 48) := by rw [show g.1 = jm_LR from hg]; rfl
theorem cR14 {g : jm_G} (hg : jm_HR g) : g.1[14]? = some (.inl 1200) := by rw [show g.1 = jm_LR from hg]; rfl
theorem cR15 {g : jm_G} (hg : jm_HR g) : g.1[15]? = some (.inl 1200) := by rw [show g.1 = jm_LR from hg]; rfl
theorem cR16 {g : jm_G} (hg : jm_HR g) : g.1[16]? = some (.inl 40) := by rw [show g.1 = jm_LR from hg]; rfl
theorem cR17 {g : jm_G} (hg : jm_HR g) : g.1[17]? = some (.inl 384) := by rw [show g.1 = jm_LR from hg]; rfl
theorem cR18 {g : jm_G} (hg : jm_HR g) : g.1[18]? = some (.inl 800) := by rw [show g.1 = jm_LR from hg]; rfl
theorem cR19 {g : jm_G} (hg : jm_HR g) : g.1[19]? = some (.inl 480) := by rw [show g.1 = jm_LR from hg]; rfl
theorem cR20 {g : jm_G} (hg : jm_HR g) : g.1[20]? = some (.inl 4) := by rw [show g.1 = jm_LR from hg]; rfl
theorem cR21 {g : jm_G} (hg : jm_HR g) : g.1[21]? = some (.inl 4) := by rw [show g.1 = jm_LR from hg]; rfl
theorem cR22 {g : jm_G} (hg : jm_HR g) : g.1[22]? = some (.inl 11) := by rw [show g.1 = jm_LR from hg]; rfl
theorem cR23 {g : jm_G} (hg : jm_HR g) : g.1[23]? = some (.inl 420) := by rw [show g.1 = jm_LR from hg]; rfl
theorem cR24 {g : jm_G} (hg : jm_HR g) : g.1[24]? = some (.inl 120) := by rw [show g.1 = jm_LR from hg]; rfl
theorem cR25 {g : jm_G} (hg : jm_HR g) : g.1[25]? = some (.inl 200) := by rw [show g.1 = jm_LR from hg]; rfl
theorem cR26 {g : jm_G} (hg : jm_HR g) : g.1[26]? = some (.inl 600) := by rw [show g.1 = jm_LR from hg]; rfl
theorem cR27 {g : jm_G} (hg : jm_HR g) : g.1[27]? = some (.inl 10) := by rw [show g.1 = jm_LR from hg]; rfl
theorem cR28 {g : jm_G} (hg : jm_HR g) : g.1[28]? = some (.inl 12) := by rw [show g.1 = jm_LR from hg]; rfl
theorem cR29 {g : jm_G} (hg : jm_HR g) : g.1[29]? = some (.inl 24) := by rw [show g.1 = jm_LR from hg]; rfl
theorem cR30 {g : jm_G} (hg : jm_HR g) : g.1[30]? = some (.inl 2700) := by rw [show g.1 = jm_LR from hg]; rfl
theorem nwX7_51 {g : jm_G} (hg : jm_HC g) (s : State) (h : g.2.2.2.2 s) : va_Nw (.methodLinkNest RX7 51 yX11_isWithin "SungEvidence") s := hg.2.1 _ (List.mem_of_getElem? (i := 0) rfl) s h
theorem nwX4_32 {g : jm_G} (hg : jm_HC g) (s : State) (h : g.2.2.2.2 s) : va_Nw (.methodLinkNest RX4 32 yX11_isWithin "SungEvidence") s := hg.2.1 _ (List.mem_of_getElem? (i := 1) rfl) s h
theorem nwX6_94 {g : jm_G} (hg : jm_HC g) (s : State) (h : g.2.2.2.2 s) : va_Nw (.methodLinkNest RX6 94 yX11_isWithin "SungEvidence") s := hg.2.1 _ (List.mem_of_getElem? (i := 2) rfl) s h
theorem nwX8_84 {g : jm_G} (hg : jm_HC g) (s : State) (h : g.2.2.2.2 s) : va_Nw (.methodLinkNest RX8 84 yX11_isFact "SungEvidence") s := hg.2.1 _ (List.mem_of_getElem? (i := 3) rfl) s h
theorem nwX5_30 {g : jm_G} (hg : jm_HC g) (s : State) (h : g.2.2.2.2 s) : va_Nw (.methodLinkNest RX5 30 yX11_isWithin "SungEvidence") s := hg.2.1 _ (List.mem_of_getElem? (i := 4) rfl) s h
theorem nwX0_62 {g : jm_G} (hg : jm_HC g) (s : State) (h : g.2.2.2.2 s) : va_Nw (.methodLinkNest RX0 62 yX11_isWithin "SungEvidence") s := hg.2.1 _ (List.mem_of_getElem? (i := 5) rfl) s h
theorem nwX0_80 {g : jm_G} (hg : jm_HC g) (s : State) (h : g.2.2.2.2 s) : va_Nw (.methodLinkNest RX0 80 yX11_held "SungEvidence") s := hg.2.1 _ (List.mem_of_getElem? (i := 6) rfl) s h
theorem nwX1_59 {g : jm_G} (hg : jm_HC g) (s : State) (h : g.2.2.2.2 s) : va_Nw (.methodLinkNest RX1 59 yX11_isWithin "SungEvidence") s := hg.2.1 _ (List.mem_of_getElem? (i := 7) rfl) s h
theorem uX0 : ∀ w ∈ u_ws RX0 TX0 3, w ∈ jm_T := jm_up [302, 304, 306] (by decide +kernel) (by decide +kernel)
theorem ftX0 : jm_ft 0 tyX0 := fun q h => by cases h; exact ⟨tyX0_ok, nmX0⟩
theorem uX1 : ∀ w ∈ u_ws RX1 TX1 10, w ∈ jm_T := jm_up [266, 268, 270, 272, 274, 276, 278, 280, 282, 284] (by decide +kernel) (by decide +kernel)
theorem ftX1 : jm_ft 1 tyX1 := fun q h => by cases h; exact ⟨tyX1_ok, nmX1⟩
theorem uX2 : ∀ w ∈ u_ws RX2 TX2 3, w ∈ jm_T := jm_up [318, 320, 322] (by decide +kernel) (by decide +kernel)
theorem ftX2 : jm_ft 2 tyX2 := fun q h => by cases h; exact ⟨tyX2_ok, nmX2⟩
theorem uX3 : ∀ w ∈ u_ws RX3 TX3 8, w ∈ jm_T := jm_up [110, 112, 114, 116, 118, 120, 122, 124] (by decide +kernel) (by decide +kernel)
theorem ftX3 : jm_ft 3 tyX3 := fun q h => by cases h; exact ⟨tyX3_ok, nmX3⟩
theorem uX4 : ∀ w ∈ u_ws RX4 TX4 2, w ∈ jm_T := jm_up [390, 392] (by decide +kernel) (by decide +kernel)
theorem ftX4 : jm_ft 4 tyX4 := fun q h => by cases h; exact ⟨tyX4_ok, nmX4⟩
theorem uX5 : ∀ w ∈ u_ws RX5 TX5 3, w ∈ jm_T := jm_up [88, 90, 92] (by decide +kernel) (by decide +kernel)
theorem ftX5 : jm_ft 5 tyX5 := fun q h => by cases h; exact ⟨tyX5_ok, nmX5⟩
theorem uX6 : ∀ w ∈ u_ws RX6 TX6 8, w ∈ jm_T := jm_up [147, 149, 151, 153, 155, 157, 159, 161] (by decide +kernel) (by decide +kernel)
theorem ftX6 : jm_ft 6 tyX6 := fun q h => by cases h; exact ⟨tyX6_ok, nmX6⟩
theorem uX7 : ∀ w ∈ u_ws RX7 TX7 9, w ∈ jm_T := jm_up [48, 50, 52, 54, 56, 58, 60, 62, 64] (by decide +kernel) (by decide +kernel)
theorem ftX7 : jm_ft 7 tyX7 := fun q h => by cases h; exact ⟨tyX7_ok, nmX7⟩
theorem uX8 : ∀ w ∈ u_ws RX8 TX8 13, w ∈ jm_T := jm_up [206, 208, 210, 212, 214, 216, 218, 220, 222, 224, 226, 228, 230] (by decide +kernel) (by decide +kernel)
theorem ftX8 : jm_ft 8 tyX8 := fun q h => by cases h; exact ⟨tyX8_ok, nmX8⟩
theorem uX9 : ∀ w ∈ u_ws RX9 TX9 7, w ∈ jm_T := jm_up [361, 363, 365, 367, 369, 371, 373] (by decide +kernel) (by decide +kernel)
theorem ftX9 : jm_ft 9 tyX9 := fun q h => by cases h; exact ⟨tyX9_ok, nmX9⟩
theorem uX10 : ∀ w ∈ u_ws RX10 TX10 5, w ∈ jm_T := jm_up [336, 338, 340, 342, 344] (by decide +kernel) (by decide +kernel)
theorem ftX10 : jm_ft 10 tyX10 := fun q h => by cases h; exact ⟨tyX10_ok, nmX10⟩
theorem uX11 : ∀ w ∈ u_ws RX11 TX11 17, w ∈ jm_T := jm_up [413, 415, 417, 419, 421, 423, 425, 427, 429, 431, 433, 435, 437, 439, 441, 443, 445] (by decide +kernel) (by decide +kernel)
theorem ftX11 : jm_ft 11 tyX11 := fun q h => by cases h; exact ⟨tyX11_ok, nmX11⟩
theorem uX12 : ∀ w ∈ u_ws RX12 TX12 59, w ∈ jm_T := jm_up [1303, 1305, 1307, 1309, 1311, 1313, 1315, 1317, 1319, 1321, 1323, 1325, 1327, 1329, 1331, 1333, 1335, 1337, 1339, 1341, 1343, 1345, 1347, 1349, 1351, 1353, 1355, 1357, 1359, 1361, 1363, 1365, 1367, 1369, 1371, 1373, 1375, 1377, 1379, 1381, 1383, 1385, 1387, 1389, 1391, 1393, 1395, 1397, 1399, 1401, 1403, 1405, 1407, 1409, 1411, 1413, 1415, 1417, 1419] (by decide +kernel) (by decide +kernel)
theorem ftX12 : jm_ft 12 tyX12 := fun q h => by cases h; exact ⟨tyX12_ok, nmX12⟩
end
