section
-- ===== PART A: goes FIRST, ahead of the names: the tables' words, and 'selects' of the private methods out of them =====
/-- a private method of a class that the tables say can be made, by its rows of tables_1 -/
def lw_okq (q : MethodName × Nat) : Prop := (q.1.cls ≠ "java/lang/invoke/MethodHandle" ∧ q.1.cls ≠ "java/lang/invoke/VarHandle") ∧ Cond.instantiable q.1.cls q.2 ∈ tables_1 ∧ Cond.privateMethod q.1 ∈ tables_1 ∧ Cond.instanceMethod q.1 ∈ tables_1
theorem lw_p0 : lw_okq (⟨"SungEvidence", "forgetDeeds", "()V"⟩, 17) := ⟨⟨by decide +kernel, by decide +kernel⟩, List.mem_of_getElem? (i := 23) (by decide +kernel), List.mem_of_getElem? (i := 453) (by decide +kernel), List.mem_of_getElem? (i := 454) (by decide +kernel)⟩
theorem lw_p1 : lw_okq (⟨"SungEvidence", "setOfWitness", "(III)Z"⟩, 17) := ⟨⟨by decide +kernel, by decide +kernel⟩, List.mem_of_getElem? (i := 23) (by decide +kernel), List.mem_of_getElem? (i := 486) (by decide +kernel), List.mem_of_getElem? (i := 487) (by decide +kernel)⟩
theorem lw_p2 : lw_okq (⟨"SungEvidence", "setOfBench", "(II)Z"⟩, 17) := ⟨⟨by decide +kernel, by decide +kernel⟩, List.mem_of_getElem? (i := 23) (by decide +kernel), List.mem_of_getElem? (i := 490) (by decide +kernel), List.mem_of_getElem? (i := 491) (by decide +kernel)⟩
theorem lw_p3 : lw_okq (⟨"SungEvidence$Tape", "addToken", "(I)V"⟩, 9) := ⟨⟨by decide +kernel, by decide +kernel⟩, List.mem_of_getElem? (i := 31) (by decide +kernel), List.mem_of_getElem? (i := 529) (by decide +kernel), List.mem_of_getElem? (i := 530) (by decide +kernel)⟩
theorem lw_p4 : lw_okq (⟨"SungEvidence$Tape", "kindOf", "(ILjava/lang/String;)I"⟩, 9) := ⟨⟨by decide +kernel, by decide +kernel⟩, List.mem_of_getElem? (i := 31) (by decide +kernel), List.mem_of_getElem? (i := 533) (by decide +kernel), List.mem_of_getElem? (i := 534) (by decide +kernel)⟩
theorem lw_p5 : lw_okq (⟨"SungEvidence$Tape", "wordOf", "(ILjava/lang/String;)I"⟩, 9) := ⟨⟨by decide +kernel, by decide +kernel⟩, List.mem_of_getElem? (i := 31) (by decide +kernel), List.mem_of_getElem? (i := 537) (by decide +kernel), List.mem_of_getElem? (i := 538) (by decide +kernel)⟩
theorem lw_p6 : lw_okq (⟨"SungEvidence$Tape", "isSpelled", "(Ljava/lang/String;III)Z"⟩, 9) := ⟨⟨by decide +kernel, by decide +kernel⟩, List.mem_of_getElem? (i := 31) (by decide +kernel), List.mem_of_getElem? (i := 589) (by decide +kernel), List.mem_of_getElem? (i := 590) (by decide +kernel)⟩
theorem lw_p7 : lw_okq (⟨"SungEvidence$Motives", "readLine", "(LSungEvidence$Tape;)Z"⟩, 3) := ⟨⟨by decide +kernel, by decide +kernel⟩, List.mem_of_getElem? (i := 75) (by decide +kernel), List.mem_of_getElem? (i := 601) (by decide +kernel), List.mem_of_getElem? (i := 602) (by decide +kernel)⟩
theorem lw_p8 : lw_okq (⟨"SungEvidence$Motives", "readSteps", "(LSungEvidence$Tape;I)Z"⟩, 3) := ⟨⟨by decide +kernel, by decide +kernel⟩, List.mem_of_getElem? (i := 75) (by decide +kernel), List.mem_of_getElem? (i := 628) (by decide +kernel), List.mem_of_getElem? (i := 629) (by decide +kernel)⟩
theorem lw_p9 : lw_okq (⟨"SungEvidence", "adoptMotives", "()I"⟩, 17) := ⟨⟨by decide +kernel, by decide +kernel⟩, List.mem_of_getElem? (i := 23) (by decide +kernel), List.mem_of_getElem? (i := 635) (by decide +kernel), List.mem_of_getElem? (i := 636) (by decide +kernel)⟩
theorem lw_p10 : lw_okq (⟨"SungEvidence$LawReader", "readSum", "()Z"⟩, 2) := ⟨⟨by decide +kernel, by decide +kernel⟩, List.mem_of_getElem? (i := 383) (by decide +kernel), List.mem_of_getElem? (i := 662) (by decide +kernel), List.mem_of_getElem? (i := 663) (by decide +kernel)⟩
theorem lw_p11 : lw_okq (⟨"SungEvidence$LawReader", "readProduct", "()Z"⟩, 2) := ⟨⟨by decide +kernel, by decide +kernel⟩, List.mem_of_getElem? (i := 383) (by decide +kernel), List.mem_of_getElem? (i := 666) (by decide +kernel), List.mem_of_getElem? (i := 667) (by decide +kernel)⟩
theorem lw_p12 : lw_okq (⟨"SungEvidence$LawReader", "readUnit", "()Z"⟩, 2) := ⟨⟨by decide +kernel, by decide +kernel⟩, List.mem_of_getElem? (i := 383) (by decide +kernel), List.mem_of_getElem? (i := 670) (by decide +kernel), List.mem_of_getElem? (i := 671) (by decide +kernel)⟩
theorem lw_p13 : lw_okq (⟨"SungEvidence$LawReader", "readCondition", "(I)Z"⟩, 2) := ⟨⟨by decide +kernel, by decide +kernel⟩, List.mem_of_getElem? (i := 383) (by decide +kernel), List.mem_of_getElem? (i := 684) (by decide +kernel), List.mem_of_getElem? (i := 685) (by decide +kernel)⟩
theorem lw_p14 : lw_okq (⟨"SungEvidence$LawReader", "readTest", "(I)Z"⟩, 2) := ⟨⟨by decide +kernel, by decide +kernel⟩, List.mem_of_getElem? (i := 383) (by decide +kernel), List.mem_of_getElem? (i := 688) (by decide +kernel), List.mem_of_getElem? (i := 689) (by decide +kernel)⟩
theorem lw_p15 : lw_okq (⟨"SungEvidence", "adoptLaw", "()I"⟩, 17) := ⟨⟨by decide +kernel, by decide +kernel⟩, List.mem_of_getElem? (i := 23) (by decide +kernel), List.mem_of_getElem? (i := 700) (by decide +kernel), List.mem_of_getElem? (i := 701) (by decide +kernel)⟩
def lw_privs_1 : List (MethodName × Nat) := [(⟨"SungEvidence", "forgetDeeds", "()V"⟩, 17), (⟨"SungEvidence", "setOfWitness", "(III)Z"⟩, 17), (⟨"SungEvidence", "setOfBench", "(II)Z"⟩, 17), (⟨"SungEvidence$Tape", "addToken", "(I)V"⟩, 9), (⟨"SungEvidence$Tape", "kindOf", "(ILjava/lang/String;)I"⟩, 9), (⟨"SungEvidence$Tape", "wordOf", "(ILjava/lang/String;)I"⟩, 9), (⟨"SungEvidence$Tape", "isSpelled", "(Ljava/lang/String;III)Z"⟩, 9), (⟨"SungEvidence$Motives", "readLine", "(LSungEvidence$Tape;)Z"⟩, 3), (⟨"SungEvidence$Motives", "readSteps", "(LSungEvidence$Tape;I)Z"⟩, 3), (⟨"SungEvidence", "adoptMotives", "()I"⟩, 17), (⟨"SungEvidence$LawReader", "readSum", "()Z"⟩, 2), (⟨"SungEvidence$LawReader", "readProduct", "()Z"⟩, 2), (⟨"SungEvidence$LawReader", "readUnit", "()Z"⟩, 2), (⟨"SungEvidence$LawReader", "readCondition", "(I)Z"⟩, 2), (⟨"SungEvidence$LawReader", "readTest", "(I)Z"⟩, 2), (⟨"SungEvidence", "adoptLaw", "()I"⟩, 17)]
theorem lw_r1 : ∀ q ∈ lw_privs_1, lw_okq q := List.forall_mem_cons.mpr ⟨lw_p0, List.forall_mem_cons.mpr ⟨lw_p1, List.forall_mem_cons.mpr ⟨lw_p2, List.forall_mem_cons.mpr ⟨lw_p3, List.forall_mem_cons.mpr ⟨lw_p4, List.forall_mem_cons.mpr ⟨lw_p5, List.forall_mem_cons.mpr ⟨lw_p6, List.forall_mem_cons.mpr ⟨lw_p7, List.forall_mem_cons.mpr ⟨lw_p8, List.forall_mem_cons.mpr ⟨lw_p9, List.forall_mem_cons.mpr ⟨lw_p10, List.forall_mem_cons.mpr ⟨lw_p11, List.forall_mem_cons.mpr ⟨lw_p12, List.forall_mem_cons.mpr ⟨lw_p13, List.forall_mem_cons.mpr ⟨lw_p14, List.forall_mem_cons.mpr ⟨lw_p15, fun _ h => absurd h List.not_mem_nil⟩⟩⟩⟩⟩⟩⟩⟩⟩⟩⟩⟩⟩⟩⟩⟩
theorem lw_p16 : lw_okq (⟨"SungEvidence$Plan", "readEnd", "(LSungEvidence$Tape;)Z"⟩, 8) := ⟨⟨by decide +kernel, by decide +kernel⟩, List.mem_of_getElem? (i := 128) (by decide +kernel), List.mem_of_getElem? (i := 714) (by decide +kernel), List.mem_of_getElem? (i := 715) (by decide +kernel)⟩
theorem lw_p17 : lw_okq (⟨"SungEvidence$Plan", "readDeed", "(LSungEvidence$Tape;I)Z"⟩, 8) := ⟨⟨by decide +kernel, by decide +kernel⟩, List.mem_of_getElem? (i := 128) (by decide +kernel), List.mem_of_getElem? (i := 719) (by decide +kernel), List.mem_of_getElem? (i := 720) (by decide +kernel)⟩
theorem lw_p18 : lw_okq (⟨"SungEvidence$Plan", "readCall", "(LSungEvidence$Tape;I)Z"⟩, 8) := ⟨⟨by decide +kernel, by decide +kernel⟩, List.mem_of_getElem? (i := 128) (by decide +kernel), List.mem_of_getElem? (i := 723) (by decide +kernel), List.mem_of_getElem? (i := 724) (by decide +kernel)⟩
theorem lw_p19 : lw_okq (⟨"SungEvidence$Plan", "addDeed", "(IIII)V"⟩, 8) := ⟨⟨by decide +kernel, by decide +kernel⟩, List.mem_of_getElem? (i := 128) (by decide +kernel), List.mem_of_getElem? (i := 731) (by decide +kernel), List.mem_of_getElem? (i := 732) (by decide +kernel)⟩
theorem lw_p20 : lw_okq (⟨"SungEvidence$Plan", "readCross", "(LSungEvidence$Tape;I)Z"⟩, 8) := ⟨⟨by decide +kernel, by decide +kernel⟩, List.mem_of_getElem? (i := 128) (by decide +kernel), List.mem_of_getElem? (i := 735) (by decide +kernel), List.mem_of_getElem? (i := 736) (by decide +kernel)⟩
theorem lw_p21 : lw_okq (⟨"SungEvidence$Plan", "readAgain", "(LSungEvidence$Tape;)Z"⟩, 8) := ⟨⟨by decide +kernel, by decide +kernel⟩, List.mem_of_getElem? (i := 128) (by decide +kernel), List.mem_of_getElem? (i := 739) (by decide +kernel), List.mem_of_getElem? (i := 740) (by decide +kernel)⟩
theorem lw_p22 : lw_okq (⟨"SungEvidence$Plan", "closeAgain", "(LSungEvidence$Tape;)Z"⟩, 8) := ⟨⟨by decide +kernel, by decide +kernel⟩, List.mem_of_getElem? (i := 128) (by decide +kernel), List.mem_of_getElem? (i := 743) (by decide +kernel), List.mem_of_getElem? (i := 744) (by decide +kernel)⟩
theorem lw_p23 : lw_okq (⟨"SungEvidence$Plan", "copyDeed", "(II)V"⟩, 8) := ⟨⟨by decide +kernel, by decide +kernel⟩, List.mem_of_getElem? (i := 128) (by decide +kernel), List.mem_of_getElem? (i := 747) (by decide +kernel), List.mem_of_getElem? (i := 748) (by decide +kernel)⟩
theorem lw_p24 : lw_okq (⟨"SungEvidence", "adoptPlan", "()I"⟩, 17) := ⟨⟨by decide +kernel, by decide +kernel⟩, List.mem_of_getElem? (i := 23) (by decide +kernel), List.mem_of_getElem? (i := 752) (by decide +kernel), List.mem_of_getElem? (i := 753) (by decide +kernel)⟩
theorem lw_p25 : lw_okq (⟨"SungEvidence$Deeds", "barsOf", "(II)I"⟩, 3) := ⟨⟨by decide +kernel, by decide +kernel⟩, List.mem_of_getElem? (i := 310) (by decide +kernel), List.mem_of_getElem? (i := 813) (by decide +kernel), List.mem_of_getElem? (i := 814) (by decide +kernel)⟩
theorem lw_p26 : lw_okq (⟨"SungEvidence", "keepCourt", "()V"⟩, 17) := ⟨⟨by decide +kernel, by decide +kernel⟩, List.mem_of_getElem? (i := 23) (by decide +kernel), List.mem_of_getElem? (i := 821) (by decide +kernel), List.mem_of_getElem? (i := 822) (by decide +kernel)⟩
theorem lw_p27 : lw_okq (⟨"SungEvidence$Deeds", "singNotes", "(III)I"⟩, 3) := ⟨⟨by decide +kernel, by decide +kernel⟩, List.mem_of_getElem? (i := 310) (by decide +kernel), List.mem_of_getElem? (i := 837) (by decide +kernel), List.mem_of_getElem? (i := 838) (by decide +kernel)⟩
theorem lw_p28 : lw_okq (⟨"SungEvidence$Bench", "setTerms", "(II)V"⟩, 3) := ⟨⟨by decide +kernel, by decide +kernel⟩, List.mem_of_getElem? (i := 288) (by decide +kernel), List.mem_of_getElem? (i := 855) (by decide +kernel), List.mem_of_getElem? (i := 856) (by decide +kernel)⟩
theorem lw_p29 : lw_okq (⟨"SungEvidence$Law", "worth", "(II[I)I"⟩, 8) := ⟨⟨by decide +kernel, by decide +kernel⟩, List.mem_of_getElem? (i := 96) (by decide +kernel), List.mem_of_getElem? (i := 871) (by decide +kernel), List.mem_of_getElem? (i := 872) (by decide +kernel)⟩
theorem lw_p30 : lw_okq (⟨"SungEvidence$Deeds", "loseNerve", "(II)V"⟩, 3) := ⟨⟨by decide +kernel, by decide +kernel⟩, List.mem_of_getElem? (i := 310) (by decide +kernel), List.mem_of_getElem? (i := 887) (by decide +kernel), List.mem_of_getElem? (i := 888) (by decide +kernel)⟩
theorem lw_p31 : lw_okq (⟨"SungEvidence$Voices", "addChance", "(I)V"⟩, 5) := ⟨⟨by decide +kernel, by decide +kernel⟩, List.mem_of_getElem? (i := 326) (by decide +kernel), List.mem_of_getElem? (i := 1007) (by decide +kernel), List.mem_of_getElem? (i := 1008) (by decide +kernel)⟩
def lw_privs_2 : List (MethodName × Nat) := [(⟨"SungEvidence$Plan", "readEnd", "(LSungEvidence$Tape;)Z"⟩, 8), (⟨"SungEvidence$Plan", "readDeed", "(LSungEvidence$Tape;I)Z"⟩, 8), (⟨"SungEvidence$Plan", "readCall", "(LSungEvidence$Tape;I)Z"⟩, 8), (⟨"SungEvidence$Plan", "addDeed", "(IIII)V"⟩, 8), (⟨"SungEvidence$Plan", "readCross", "(LSungEvidence$Tape;I)Z"⟩, 8), (⟨"SungEvidence$Plan", "readAgain", "(LSungEvidence$Tape;)Z"⟩, 8), (⟨"SungEvidence$Plan", "closeAgain", "(LSungEvidence$Tape;)Z"⟩, 8), (⟨"SungEvidence$Plan", "copyDeed", "(II)V"⟩, 8), (⟨"SungEvidence", "adoptPlan", "()I"⟩, 17), (⟨"SungEvidence$Deeds", "barsOf", "(II)I"⟩, 3), (⟨"SungEvidence", "keepCourt", "()V"⟩, 17), (⟨"SungEvidence$Deeds", "singNotes", "(III)I"⟩, 3), (⟨"SungEvidence$Bench", "setTerms", "(II)V"⟩, 3), (⟨"SungEvidence$Law", "worth", "(II[I)I"⟩, 8), (⟨"SungEvidence$Deeds", "loseNerve", "(II)V"⟩, 3), (⟨"SungEvidence$Voices", "addChance", "(I)V"⟩, 5)]
theorem lw_r2 : ∀ q ∈ lw_privs_2, lw_okq q := List.forall_mem_cons.mpr ⟨lw_p16, List.forall_mem_cons.mpr ⟨lw_p17, List.forall_mem_cons.mpr ⟨lw_p18, List.forall_mem_cons.mpr ⟨lw_p19, List.forall_mem_cons.mpr ⟨lw_p20, List.forall_mem_cons.mpr ⟨lw_p21, List.forall_mem_cons.mpr ⟨lw_p22, List.forall_mem_cons.mpr ⟨lw_p23, List.forall_mem_cons.mpr ⟨lw_p24, List.forall_mem_cons.mpr ⟨lw_p25, List.forall_mem_cons.mpr ⟨lw_p26, List.forall_mem_cons.mpr ⟨lw_p27, List.forall_mem_cons.mpr ⟨lw_p28, List.forall_mem_cons.mpr ⟨lw_p29, List.forall_mem_cons.mpr ⟨lw_p30, List.forall_mem_cons.mpr ⟨lw_p31, fun _ h => absurd h List.not_mem_nil⟩⟩⟩⟩⟩⟩⟩⟩⟩⟩⟩⟩⟩⟩⟩⟩
theorem lw_p32 : lw_okq (⟨"SungEvidence$Voices", "fewestUnlike", "(I)I"⟩, 5) := ⟨⟨by decide +kernel, by decide +kernel⟩, List.mem_of_getElem? (i := 326) (by decide +kernel), List.mem_of_getElem? (i := 1024) (by decide +kernel), List.mem_of_getElem? (i := 1025) (by decide +kernel)⟩
theorem lw_p33 : lw_okq (⟨"SungEvidence$Voices", "unlikeFrom", "(II)I"⟩, 5) := ⟨⟨by decide +kernel, by decide +kernel⟩, List.mem_of_getElem? (i := 326) (by decide +kernel), List.mem_of_getElem? (i := 1030) (by decide +kernel), List.mem_of_getElem? (i := 1031) (by decide +kernel)⟩
theorem lw_p34 : lw_okq (⟨"SungEvidence$Voices", "soundingFrom", "(III)I"⟩, 5) := ⟨⟨by decide +kernel, by decide +kernel⟩, List.mem_of_getElem? (i := 326) (by decide +kernel), List.mem_of_getElem? (i := 1071) (by decide +kernel), List.mem_of_getElem? (i := 1072) (by decide +kernel)⟩
theorem lw_p35 : lw_okq (⟨"SungEvidence$Verdict", "weighAll", "(I)V"⟩, 7) := ⟨⟨by decide +kernel, by decide +kernel⟩, List.mem_of_getElem? (i := 349) (by decide +kernel), List.mem_of_getElem? (i := 1094) (by decide +kernel), List.mem_of_getElem? (i := 1095) (by decide +kernel)⟩
theorem lw_p36 : lw_okq (⟨"SungEvidence$Verdict", "missingFor", "(I)I"⟩, 7) := ⟨⟨by decide +kernel, by decide +kernel⟩, List.mem_of_getElem? (i := 349) (by decide +kernel), List.mem_of_getElem? (i := 1108) (by decide +kernel), List.mem_of_getElem? (i := 1109) (by decide +kernel)⟩
theorem lw_p37 : lw_okq (⟨"SungEvidence$Verdict", "callable", "(II)I"⟩, 7) := ⟨⟨by decide +kernel, by decide +kernel⟩, List.mem_of_getElem? (i := 349) (by decide +kernel), List.mem_of_getElem? (i := 1121) (by decide +kernel), List.mem_of_getElem? (i := 1122) (by decide +kernel)⟩
theorem lw_p38 : lw_okq (⟨"SungEvidence$Verdict", "sumOf", "(I)I"⟩, 7) := ⟨⟨by decide +kernel, by decide +kernel⟩, List.mem_of_getElem? (i := 349) (by decide +kernel), List.mem_of_getElem? (i := 1134) (by decide +kernel), List.mem_of_getElem? (i := 1135) (by decide +kernel)⟩
theorem lw_p39 : lw_okq (⟨"SungEvidence$Verdict", "opponentsOf", "(I)I"⟩, 7) := ⟨⟨by decide +kernel, by decide +kernel⟩, List.mem_of_getElem? (i := 349) (by decide +kernel), List.mem_of_getElem? (i := 1147) (by decide +kernel), List.mem_of_getElem? (i := 1148) (by decide +kernel)⟩
theorem lw_p40 : lw_okq (⟨"SungEvidence$Verdict", "agree", "(I)Z"⟩, 7) := ⟨⟨by decide +kernel, by decide +kernel⟩, List.mem_of_getElem? (i := 349) (by decide +kernel), List.mem_of_getElem? (i := 1155) (by decide +kernel), List.mem_of_getElem? (i := 1156) (by decide +kernel)⟩
theorem lw_p41 : lw_okq (⟨"SungEvidence$Verdict", "tellLiars", "()V"⟩, 7) := ⟨⟨by decide +kernel, by decide +kernel⟩, List.mem_of_getElem? (i := 349) (by decide +kernel), List.mem_of_getElem? (i := 1167) (by decide +kernel), List.mem_of_getElem? (i := 1168) (by decide +kernel)⟩
theorem lw_p42 : lw_okq (⟨"SungEvidence$Verdict", "countWorlds", "(III)I"⟩, 7) := ⟨⟨by decide +kernel, by decide +kernel⟩, List.mem_of_getElem? (i := 349) (by decide +kernel), List.mem_of_getElem? (i := 1171) (by decide +kernel), List.mem_of_getElem? (i := 1172) (by decide +kernel)⟩
theorem lw_p43 : lw_okq (⟨"SungEvidence$Verdict", "sureFacts", "(I)I"⟩, 7) := ⟨⟨by decide +kernel, by decide +kernel⟩, List.mem_of_getElem? (i := 349) (by decide +kernel), List.mem_of_getElem? (i := 1175) (by decide +kernel), List.mem_of_getElem? (i := 1176) (by decide +kernel)⟩
theorem lw_p44 : lw_okq (⟨"SungEvidence$Verdict", "mostAlike", "(I)I"⟩, 7) := ⟨⟨by decide +kernel, by decide +kernel⟩, List.mem_of_getElem? (i := 349) (by decide +kernel), List.mem_of_getElem? (i := 1179) (by decide +kernel), List.mem_of_getElem? (i := 1180) (by decide +kernel)⟩
theorem lw_p45 : lw_okq (⟨"SungEvidence$Verdict", "factToAsk", "(I)I"⟩, 7) := ⟨⟨by decide +kernel, by decide +kernel⟩, List.mem_of_getElem? (i := 349) (by decide +kernel), List.mem_of_getElem? (i := 1183) (by decide +kernel), List.mem_of_getElem? (i := 1184) (by decide +kernel)⟩
theorem lw_p46 : lw_okq (⟨"SungEvidence$Voices", "tellSounds", "()V"⟩, 5) := ⟨⟨by decide +kernel, by decide +kernel⟩, List.mem_of_getElem? (i := 326) (by decide +kernel), List.mem_of_getElem? (i := 1195) (by decide +kernel), List.mem_of_getElem? (i := 1196) (by decide +kernel)⟩
theorem lw_p47 : lw_okq (⟨"SungEvidence$Voices", "rangeOf", "(I)J"⟩, 5) := ⟨⟨by decide +kernel, by decide +kernel⟩, List.mem_of_getElem? (i := 326) (by decide +kernel), List.mem_of_getElem? (i := 1203) (by decide +kernel), List.mem_of_getElem? (i := 1204) (by decide +kernel)⟩
def lw_privs_3 : List (MethodName × Nat) := [(⟨"SungEvidence$Voices", "fewestUnlike", "(I)I"⟩, 5), (⟨"SungEvidence$Voices", "unlikeFrom", "(II)I"⟩, 5), (⟨"SungEvidence$Voices", "soundingFrom", "(III)I"⟩, 5), (⟨"SungEvidence$Verdict", "weighAll", "(I)V"⟩, 7), (⟨"SungEvidence$Verdict", "missingFor", "(I)I"⟩, 7), (⟨"SungEvidence$Verdict", "callable", "(II)I"⟩, 7), (⟨"SungEvidence$Verdict", "sumOf", "(I)I"⟩, 7), (⟨"SungEvidence$Verdict", "opponentsOf", "(I)I"⟩, 7), (⟨"SungEvidence$Verdict", "agree", "(I)Z"⟩, 7), (⟨"SungEvidence$Verdict", "tellLiars", "()V"⟩, 7), (⟨"SungEvidence$Verdict", "countWorlds", "(III)I"⟩, 7), (⟨"SungEvidence$Verdict", "sureFacts", "(I)I"⟩, 7), (⟨"SungEvidence$Verdict", "mostAlike", "(I)I"⟩, 7), (⟨"SungEvidence$Verdict", "factToAsk", "(I)I"⟩, 7), (⟨"SungEvidence$Voices", "tellSounds", "()V"⟩, 5), (⟨"SungEvidence$Voices", "rangeOf", "(I)J"⟩, 5)]
theorem lw_r3 : ∀ q ∈ lw_privs_3, lw_okq q := List.forall_mem_cons.mpr ⟨lw_p32, List.forall_mem_cons.mpr ⟨lw_p33, List.forall_mem_cons.mpr ⟨lw_p34, List.forall_mem_cons.mpr ⟨lw_p35, List.forall_mem_cons.mpr ⟨lw_p36, List.forall_mem_cons.mpr ⟨lw_p37, List.forall_mem_cons.mpr ⟨lw_p38, List.forall_mem_cons.mpr ⟨lw_p39, List.forall_mem_cons.mpr ⟨lw_p40, List.forall_mem_cons.mpr ⟨lw_p41, List.forall_mem_cons.mpr ⟨lw_p42, List.forall_mem_cons.mpr ⟨lw_p43, List.forall_mem_cons.mpr ⟨lw_p44, List.forall_mem_cons.mpr ⟨lw_p45, List.forall_mem_cons.mpr ⟨lw_p46, List.forall_mem_cons.mpr ⟨lw_p47, fun _ h => absurd h List.not_mem_nil⟩⟩⟩⟩⟩⟩⟩⟩⟩⟩⟩⟩⟩⟩⟩⟩
theorem lw_p48 : lw_okq (⟨"SungEvidenceModel", "isIn", "(III)Z"⟩, 59) := ⟨⟨by decide +kernel, by decide +kernel⟩, List.mem_of_getElem? (i := 1239) (by decide +kernel), List.mem_of_getElem? (i := 1435) (by decide +kernel), List.mem_of_getElem? (i := 1436) (by decide +kernel)⟩
theorem lw_p49 : lw_okq (⟨"SungEvidenceModel", "isWitness", "(I)Z"⟩, 59) := ⟨⟨by decide +kernel, by decide +kernel⟩, List.mem_of_getElem? (i := 1239) (by decide +kernel), List.mem_of_getElem? (i := 1443) (by decide +kernel), List.mem_of_getElem? (i := 1444) (by decide +kernel)⟩
theorem lw_p50 : lw_okq (⟨"SungEvidenceModel", "isFact", "(I)Z"⟩, 59) := ⟨⟨by decide +kernel, by decide +kernel⟩, List.mem_of_getElem? (i := 1239) (by decide +kernel), List.mem_of_getElem? (i := 1447) (by decide +kernel), List.mem_of_getElem? (i := 1448) (by decide +kernel)⟩
theorem lw_p51 : lw_okq (⟨"SungEvidenceModel", "canSet", "(III)Z"⟩, 59) := ⟨⟨by decide +kernel, by decide +kernel⟩, List.mem_of_getElem? (i := 1239) (by decide +kernel), List.mem_of_getElem? (i := 1455) (by decide +kernel), List.mem_of_getElem? (i := 1456) (by decide +kernel)⟩
theorem lw_p52 : lw_okq (⟨"SungEvidenceModel", "nerveBe", "(II)V"⟩, 59) := ⟨⟨by decide +kernel, by decide +kernel⟩, List.mem_of_getElem? (i := 1239) (by decide +kernel), List.mem_of_getElem? (i := 1459) (by decide +kernel), List.mem_of_getElem? (i := 1460) (by decide +kernel)⟩
theorem lw_p53 : lw_okq (⟨"SungEvidenceModel", "held", "(III)I"⟩, 59) := ⟨⟨by decide +kernel, by decide +kernel⟩, List.mem_of_getElem? (i := 1239) (by decide +kernel), List.mem_of_getElem? (i := 1463) (by decide +kernel), List.mem_of_getElem? (i := 1464) (by decide +kernel)⟩
theorem lw_p54 : lw_okq (⟨"SungEvidenceModel", "types", "(I)V"⟩, 59) := ⟨⟨by decide +kernel, by decide +kernel⟩, List.mem_of_getElem? (i := 1239) (by decide +kernel), List.mem_of_getElem? (i := 1471) (by decide +kernel), List.mem_of_getElem? (i := 1472) (by decide +kernel)⟩
theorem lw_p55 : lw_okq (⟨"SungEvidenceModel", "readsText", "(I)I"⟩, 59) := ⟨⟨by decide +kernel, by decide +kernel⟩, List.mem_of_getElem? (i := 1239) (by decide +kernel), List.mem_of_getElem? (i := 1483) (by decide +kernel), List.mem_of_getElem? (i := 1484) (by decide +kernel)⟩
theorem lw_p56 : lw_okq (⟨"SungEvidenceModel", "reads", "()V"⟩, 59) := ⟨⟨by decide +kernel, by decide +kernel⟩, List.mem_of_getElem? (i := 1239) (by decide +kernel), List.mem_of_getElem? (i := 1487) (by decide +kernel), List.mem_of_getElem? (i := 1488) (by decide +kernel)⟩
theorem lw_p57 : lw_okq (⟨"SungEvidenceModel", "raw", "(I)I"⟩, 59) := ⟨⟨by decide +kernel, by decide +kernel⟩, List.mem_of_getElem? (i := 1239) (by decide +kernel), List.mem_of_getElem? (i := 1491) (by decide +kernel), List.mem_of_getElem? (i := 1492) (by decide +kernel)⟩
theorem lw_p58 : lw_okq (⟨"SungEvidenceModel", "isLetter", "(I)Z"⟩, 59) := ⟨⟨by decide +kernel, by decide +kernel⟩, List.mem_of_getElem? (i := 1239) (by decide +kernel), List.mem_of_getElem? (i := 1495) (by decide +kernel), List.mem_of_getElem? (i := 1496) (by decide +kernel)⟩
theorem lw_p59 : lw_okq (⟨"SungEvidenceModel", "wordAt", "(II)I"⟩, 59) := ⟨⟨by decide +kernel, by decide +kernel⟩, List.mem_of_getElem? (i := 1239) (by decide +kernel), List.mem_of_getElem? (i := 1499) (by decide +kernel), List.mem_of_getElem? (i := 1500) (by decide +kernel)⟩
theorem lw_p60 : lw_okq (⟨"SungEvidenceModel", "isDigit", "(I)Z"⟩, 59) := ⟨⟨by decide +kernel, by decide +kernel⟩, List.mem_of_getElem? (i := 1239) (by decide +kernel), List.mem_of_getElem? (i := 1503) (by decide +kernel), List.mem_of_getElem? (i := 1504) (by decide +kernel)⟩
theorem lw_p61 : lw_okq (⟨"SungEvidenceModel", "isMarkSign", "(I)Z"⟩, 59) := ⟨⟨by decide +kernel, by decide +kernel⟩, List.mem_of_getElem? (i := 1239) (by decide +kernel), List.mem_of_getElem? (i := 1507) (by decide +kernel), List.mem_of_getElem? (i := 1508) (by decide +kernel)⟩
theorem lw_p62 : lw_okq (⟨"SungEvidenceModel", "readMotives", "()I"⟩, 59) := ⟨⟨by decide +kernel, by decide +kernel⟩, List.mem_of_getElem? (i := 1239) (by decide +kernel), List.mem_of_getElem? (i := 1511) (by decide +kernel), List.mem_of_getElem? (i := 1512) (by decide +kernel)⟩
theorem lw_p63 : lw_okq (⟨"SungEvidenceModel", "isWord", "(I)Z"⟩, 59) := ⟨⟨by decide +kernel, by decide +kernel⟩, List.mem_of_getElem? (i := 1239) (by decide +kernel), List.mem_of_getElem? (i := 1515) (by decide +kernel), List.mem_of_getElem? (i := 1516) (by decide +kernel)⟩
def lw_privs_4 : List (MethodName × Nat) := [(⟨"SungEvidenceModel", "isIn", "(III)Z"⟩, 59), (⟨"SungEvidenceModel", "isWitness", "(I)Z"⟩, 59), (⟨"SungEvidenceModel", "isFact", "(I)Z"⟩, 59), (⟨"SungEvidenceModel", "canSet", "(III)Z"⟩, 59), (⟨"SungEvidenceModel", "nerveBe", "(II)V"⟩, 59), (⟨"SungEvidenceModel", "held", "(III)I"⟩, 59), (⟨"SungEvidenceModel", "types", "(I)V"⟩, 59), (⟨"SungEvidenceModel", "readsText", "(I)I"⟩, 59), (⟨"SungEvidenceModel", "reads", "()V"⟩, 59), (⟨"SungEvidenceModel", "raw", "(I)I"⟩, 59), (⟨"SungEvidenceModel", "isLetter", "(I)Z"⟩, 59), (⟨"SungEvidenceModel", "wordAt", "(II)I"⟩, 59), (⟨"SungEvidenceModel", "isDigit", "(I)Z"⟩, 59), (⟨"SungEvidenceModel", "isMarkSign", "(I)Z"⟩, 59), (⟨"SungEvidenceModel", "readMotives", "()I"⟩, 59), (⟨"SungEvidenceModel", "isWord", "(I)Z"⟩, 59)]
theorem lw_r4 : ∀ q ∈ lw_privs_4, lw_okq q := List.forall_mem_cons.mpr ⟨lw_p48, List.forall_mem_cons.mpr ⟨lw_p49, List.forall_mem_cons.mpr ⟨lw_p50, List.forall_mem_cons.mpr ⟨lw_p51, List.forall_mem_cons.mpr ⟨lw_p52, List.forall_mem_cons.mpr ⟨lw_p53, List.forall_mem_cons.mpr ⟨lw_p54, List.forall_mem_cons.mpr ⟨lw_p55, List.forall_mem_cons.mpr ⟨lw_p56, List.forall_mem_cons.mpr ⟨lw_p57, List.forall_mem_cons.mpr ⟨lw_p58, List.forall_mem_cons.mpr ⟨lw_p59, List.forall_mem_cons.mpr ⟨lw_p60, List.forall_mem_cons.mpr ⟨lw_p61, List.forall_mem_cons.mpr ⟨lw_p62, List.forall_mem_cons.mpr ⟨lw_p63, fun _ h => absurd h List.not_mem_nil⟩⟩⟩⟩⟩⟩⟩⟩⟩⟩⟩⟩⟩⟩⟩⟩
theorem lw_p64 : lw_okq (⟨"SungEvidenceModel", "errs", "(I)I"⟩, 59) := ⟨⟨by decide +kernel, by decide +kernel⟩, List.mem_of_getElem? (i := 1239) (by decide +kernel), List.mem_of_getElem? (i := 1519) (by decide +kernel), List.mem_of_getElem? (i := 1520) (by decide +kernel)⟩
theorem lw_p65 : lw_okq (⟨"SungEvidenceModel", "readMotive", "()I"⟩, 59) := ⟨⟨by decide +kernel, by decide +kernel⟩, List.mem_of_getElem? (i := 1239) (by decide +kernel), List.mem_of_getElem? (i := 1523) (by decide +kernel), List.mem_of_getElem? (i := 1524) (by decide +kernel)⟩
theorem lw_p66 : lw_okq (⟨"SungEvidenceModel", "readTold", "(III)I"⟩, 59) := ⟨⟨by decide +kernel, by decide +kernel⟩, List.mem_of_getElem? (i := 1239) (by decide +kernel), List.mem_of_getElem? (i := 1527) (by decide +kernel), List.mem_of_getElem? (i := 1528) (by decide +kernel)⟩
theorem lw_p67 : lw_okq (⟨"SungEvidenceModel", "readNumber", "(II)I"⟩, 59) := ⟨⟨by decide +kernel, by decide +kernel⟩, List.mem_of_getElem? (i := 1239) (by decide +kernel), List.mem_of_getElem? (i := 1531) (by decide +kernel), List.mem_of_getElem? (i := 1532) (by decide +kernel)⟩
theorem lw_p68 : lw_okq (⟨"SungEvidenceModel", "readStep", "(I)I"⟩, 59) := ⟨⟨by decide +kernel, by decide +kernel⟩, List.mem_of_getElem? (i := 1239) (by decide +kernel), List.mem_of_getElem? (i := 1535) (by decide +kernel), List.mem_of_getElem? (i := 1536) (by decide +kernel)⟩
theorem lw_p69 : lw_okq (⟨"SungEvidenceModel", "readMark", "(I)I"⟩, 59) := ⟨⟨by decide +kernel, by decide +kernel⟩, List.mem_of_getElem? (i := 1239) (by decide +kernel), List.mem_of_getElem? (i := 1539) (by decide +kernel), List.mem_of_getElem? (i := 1540) (by decide +kernel)⟩
theorem lw_p70 : lw_okq (⟨"SungEvidenceModel", "isSign", "(I)Z"⟩, 59) := ⟨⟨by decide +kernel, by decide +kernel⟩, List.mem_of_getElem? (i := 1239) (by decide +kernel), List.mem_of_getElem? (i := 1543) (by decide +kernel), List.mem_of_getElem? (i := 1544) (by decide +kernel)⟩
theorem lw_p71 : lw_okq (⟨"SungEvidenceModel", "readSteps", "()I"⟩, 59) := ⟨⟨by decide +kernel, by decide +kernel⟩, List.mem_of_getElem? (i := 1239) (by decide +kernel), List.mem_of_getElem? (i := 1547) (by decide +kernel), List.mem_of_getElem? (i := 1548) (by decide +kernel)⟩
theorem lw_p72 : lw_okq (⟨"SungEvidenceModel", "readCall", "()I"⟩, 59) := ⟨⟨by decide +kernel, by decide +kernel⟩, List.mem_of_getElem? (i := 1239) (by decide +kernel), List.mem_of_getElem? (i := 1551) (by decide +kernel), List.mem_of_getElem? (i := 1552) (by decide +kernel)⟩
theorem lw_p73 : lw_okq (⟨"SungEvidenceModel", "emitsStep", "(IIII)V"⟩, 59) := ⟨⟨by decide +kernel, by decide +kernel⟩, List.mem_of_getElem? (i := 1239) (by decide +kernel), List.mem_of_getElem? (i := 1555) (by decide +kernel), List.mem_of_getElem? (i := 1556) (by decide +kernel)⟩
theorem lw_p74 : lw_okq (⟨"SungEvidenceModel", "readCross", "()I"⟩, 59) := ⟨⟨by decide +kernel, by decide +kernel⟩, List.mem_of_getElem? (i := 1239) (by decide +kernel), List.mem_of_getElem? (i := 1559) (by decide +kernel), List.mem_of_getElem? (i := 1560) (by decide +kernel)⟩
theorem lw_p75 : lw_okq (⟨"SungEvidenceModel", "readAgain", "()I"⟩, 59) := ⟨⟨by decide +kernel, by decide +kernel⟩, List.mem_of_getElem? (i := 1239) (by decide +kernel), List.mem_of_getElem? (i := 1563) (by decide +kernel), List.mem_of_getElem? (i := 1564) (by decide +kernel)⟩
theorem lw_p76 : lw_okq (⟨"SungEvidenceModel", "readOther", "()I"⟩, 59) := ⟨⟨by decide +kernel, by decide +kernel⟩, List.mem_of_getElem? (i := 1239) (by decide +kernel), List.mem_of_getElem? (i := 1567) (by decide +kernel), List.mem_of_getElem? (i := 1568) (by decide +kernel)⟩
theorem lw_p77 : lw_okq (⟨"SungEvidenceModel", "laysDeeds", "()I"⟩, 59) := ⟨⟨by decide +kernel, by decide +kernel⟩, List.mem_of_getElem? (i := 1239) (by decide +kernel), List.mem_of_getElem? (i := 1571) (by decide +kernel), List.mem_of_getElem? (i := 1572) (by decide +kernel)⟩
theorem lw_p78 : lw_okq (⟨"SungEvidenceModel", "readLaw", "()I"⟩, 59) := ⟨⟨by decide +kernel, by decide +kernel⟩, List.mem_of_getElem? (i := 1239) (by decide +kernel), List.mem_of_getElem? (i := 1575) (by decide +kernel), List.mem_of_getElem? (i := 1576) (by decide +kernel)⟩
theorem lw_p79 : lw_okq (⟨"SungEvidenceModel", "isLineWord", "()Z"⟩, 59) := ⟨⟨by decide +kernel, by decide +kernel⟩, List.mem_of_getElem? (i := 1239) (by decide +kernel), List.mem_of_getElem? (i := 1579) (by decide +kernel), List.mem_of_getElem? (i := 1580) (by decide +kernel)⟩
def lw_privs_5 : List (MethodName × Nat) := [(⟨"SungEvidenceModel", "errs", "(I)I"⟩, 59), (⟨"SungEvidenceModel", "readMotive", "()I"⟩, 59), (⟨"SungEvidenceModel", "readTold", "(III)I"⟩, 59), (⟨"SungEvidenceModel", "readNumber", "(II)I"⟩, 59), (⟨"SungEvidenceModel", "readStep", "(I)I"⟩, 59), (⟨"SungEvidenceModel", "readMark", "(I)I"⟩, 59), (⟨"SungEvidenceModel", "isSign", "(I)Z"⟩, 59), (⟨"SungEvidenceModel", "readSteps", "()I"⟩, 59), (⟨"SungEvidenceModel", "readCall", "()I"⟩, 59), (⟨"SungEvidenceModel", "emitsStep", "(IIII)V"⟩, 59), (⟨"SungEvidenceModel", "readCross", "()I"⟩, 59), (⟨"SungEvidenceModel", "readAgain", "()I"⟩, 59), (⟨"SungEvidenceModel", "readOther", "()I"⟩, 59), (⟨"SungEvidenceModel", "laysDeeds", "()I"⟩, 59), (⟨"SungEvidenceModel", "readLaw", "()I"⟩, 59), (⟨"SungEvidenceModel", "isLineWord", "()Z"⟩, 59)]
theorem lw_r5 : ∀ q ∈ lw_privs_5, lw_okq q := List.forall_mem_cons.mpr ⟨lw_p64, List.forall_mem_cons.mpr ⟨lw_p65, List.forall_mem_cons.mpr ⟨lw_p66, List.forall_mem_cons.mpr ⟨lw_p67, List.forall_mem_cons.mpr ⟨lw_p68, List.forall_mem_cons.mpr ⟨lw_p69, List.forall_mem_cons.mpr ⟨lw_p70, List.forall_mem_cons.mpr ⟨lw_p71, List.forall_mem_cons.mpr ⟨lw_p72, List.forall_mem_cons.mpr ⟨lw_p73, List.forall_mem_cons.mpr ⟨lw_p74, List.forall_mem_cons.mpr ⟨lw_p75, List.forall_mem_cons.mpr ⟨lw_p76, List.forall_mem_cons.mpr ⟨lw_p77, List.forall_mem_cons.mpr ⟨lw_p78, List.forall_mem_cons.mpr ⟨lw_p79, fun _ h => absurd h List.not_mem_nil⟩⟩⟩⟩⟩⟩⟩⟩⟩⟩⟩⟩⟩⟩⟩⟩
theorem lw_p80 : lw_okq (⟨"SungEvidenceModel", "readSum", "()I"⟩, 59) := ⟨⟨by decide +kernel, by decide +kernel⟩, List.mem_of_getElem? (i := 1239) (by decide +kernel), List.mem_of_getElem? (i := 1583) (by decide +kernel), List.mem_of_getElem? (i := 1584) (by decide +kernel)⟩
theorem lw_p81 : lw_okq (⟨"SungEvidenceModel", "readProduct", "()I"⟩, 59) := ⟨⟨by decide +kernel, by decide +kernel⟩, List.mem_of_getElem? (i := 1239) (by decide +kernel), List.mem_of_getElem? (i := 1587) (by decide +kernel), List.mem_of_getElem? (i := 1588) (by decide +kernel)⟩
theorem lw_p82 : lw_okq (⟨"SungEvidenceModel", "readUnit", "()I"⟩, 59) := ⟨⟨by decide +kernel, by decide +kernel⟩, List.mem_of_getElem? (i := 1239) (by decide +kernel), List.mem_of_getElem? (i := 1591) (by decide +kernel), List.mem_of_getElem? (i := 1592) (by decide +kernel)⟩
theorem lw_p83 : lw_okq (⟨"SungEvidenceModel", "canAsk", "(I)Z"⟩, 59) := ⟨⟨by decide +kernel, by decide +kernel⟩, List.mem_of_getElem? (i := 1239) (by decide +kernel), List.mem_of_getElem? (i := 1595) (by decide +kernel), List.mem_of_getElem? (i := 1596) (by decide +kernel)⟩
theorem lw_p84 : lw_okq (⟨"SungEvidenceModel", "emits", "(II)V"⟩, 59) := ⟨⟨by decide +kernel, by decide +kernel⟩, List.mem_of_getElem? (i := 1239) (by decide +kernel), List.mem_of_getElem? (i := 1599) (by decide +kernel), List.mem_of_getElem? (i := 1600) (by decide +kernel)⟩
theorem lw_p85 : lw_okq (⟨"SungEvidenceModel", "readAny", "()I"⟩, 59) := ⟨⟨by decide +kernel, by decide +kernel⟩, List.mem_of_getElem? (i := 1239) (by decide +kernel), List.mem_of_getElem? (i := 1603) (by decide +kernel), List.mem_of_getElem? (i := 1604) (by decide +kernel)⟩
theorem lw_p86 : lw_okq (⟨"SungEvidenceModel", "waits", "(I)V"⟩, 59) := ⟨⟨by decide +kernel, by decide +kernel⟩, List.mem_of_getElem? (i := 1239) (by decide +kernel), List.mem_of_getElem? (i := 1607) (by decide +kernel), List.mem_of_getElem? (i := 1608) (by decide +kernel)⟩
theorem lw_p87 : lw_okq (⟨"SungEvidenceModel", "readCompared", "()I"⟩, 59) := ⟨⟨by decide +kernel, by decide +kernel⟩, List.mem_of_getElem? (i := 1239) (by decide +kernel), List.mem_of_getElem? (i := 1611) (by decide +kernel), List.mem_of_getElem? (i := 1612) (by decide +kernel)⟩
theorem lw_p88 : lw_okq (⟨"SungEvidenceModel", "settles", "(I)V"⟩, 59) := ⟨⟨by decide +kernel, by decide +kernel⟩, List.mem_of_getElem? (i := 1239) (by decide +kernel), List.mem_of_getElem? (i := 1615) (by decide +kernel), List.mem_of_getElem? (i := 1616) (by decide +kernel)⟩
theorem lw_p89 : lw_okq (⟨"SungEvidenceModel", "takesLaw", "(I)V"⟩, 59) := ⟨⟨by decide +kernel, by decide +kernel⟩, List.mem_of_getElem? (i := 1239) (by decide +kernel), List.mem_of_getElem? (i := 1619) (by decide +kernel), List.mem_of_getElem? (i := 1620) (by decide +kernel)⟩
theorem lw_p90 : lw_okq (⟨"SungEvidenceModel", "takesOther", "(II)V"⟩, 59) := ⟨⟨by decide +kernel, by decide +kernel⟩, List.mem_of_getElem? (i := 1239) (by decide +kernel), List.mem_of_getElem? (i := 1623) (by decide +kernel), List.mem_of_getElem? (i := 1624) (by decide +kernel)⟩
theorem lw_p91 : lw_okq (⟨"SungEvidenceModel", "canCall", "(III)Z"⟩, 59) := ⟨⟨by decide +kernel, by decide +kernel⟩, List.mem_of_getElem? (i := 1239) (by decide +kernel), List.mem_of_getElem? (i := 1635) (by decide +kernel), List.mem_of_getElem? (i := 1636) (by decide +kernel)⟩
theorem lw_p92 : lw_okq (⟨"SungEvidenceModel", "isSung", "(III)Z"⟩, 59) := ⟨⟨by decide +kernel, by decide +kernel⟩, List.mem_of_getElem? (i := 1239) (by decide +kernel), List.mem_of_getElem? (i := 1639) (by decide +kernel), List.mem_of_getElem? (i := 1640) (by decide +kernel)⟩
theorem lw_p93 : lw_okq (⟨"SungEvidenceModel", "motiveOf", "(II)I"⟩, 59) := ⟨⟨by decide +kernel, by decide +kernel⟩, List.mem_of_getElem? (i := 1239) (by decide +kernel), List.mem_of_getElem? (i := 1643) (by decide +kernel), List.mem_of_getElem? (i := 1644) (by decide +kernel)⟩
theorem lw_p94 : lw_okq (⟨"SungEvidenceModel", "claimOf", "(II)I"⟩, 59) := ⟨⟨by decide +kernel, by decide +kernel⟩, List.mem_of_getElem? (i := 1239) (by decide +kernel), List.mem_of_getElem? (i := 1647) (by decide +kernel), List.mem_of_getElem? (i := 1648) (by decide +kernel)⟩
theorem lw_p95 : lw_okq (⟨"SungEvidenceModel", "notesOf", "(I)I"⟩, 59) := ⟨⟨by decide +kernel, by decide +kernel⟩, List.mem_of_getElem? (i := 1239) (by decide +kernel), List.mem_of_getElem? (i := 1651) (by decide +kernel), List.mem_of_getElem? (i := 1652) (by decide +kernel)⟩
def lw_privs_6 : List (MethodName × Nat) := [(⟨"SungEvidenceModel", "readSum", "()I"⟩, 59), (⟨"SungEvidenceModel", "readProduct", "()I"⟩, 59), (⟨"SungEvidenceModel", "readUnit", "()I"⟩, 59), (⟨"SungEvidenceModel", "canAsk", "(I)Z"⟩, 59), (⟨"SungEvidenceModel", "emits", "(II)V"⟩, 59), (⟨"SungEvidenceModel", "readAny", "()I"⟩, 59), (⟨"SungEvidenceModel", "waits", "(I)V"⟩, 59), (⟨"SungEvidenceModel", "readCompared", "()I"⟩, 59), (⟨"SungEvidenceModel", "settles", "(I)V"⟩, 59), (⟨"SungEvidenceModel", "takesLaw", "(I)V"⟩, 59), (⟨"SungEvidenceModel", "takesOther", "(II)V"⟩, 59), (⟨"SungEvidenceModel", "canCall", "(III)Z"⟩, 59), (⟨"SungEvidenceModel", "isSung", "(III)Z"⟩, 59), (⟨"SungEvidenceModel", "motiveOf", "(II)I"⟩, 59), (⟨"SungEvidenceModel", "claimOf", "(II)I"⟩, 59), (⟨"SungEvidenceModel", "notesOf", "(I)I"⟩, 59)]
theorem lw_r6 : ∀ q ∈ lw_privs_6, lw_okq q := List.forall_mem_cons.mpr ⟨lw_p80, List.forall_mem_cons.mpr ⟨lw_p81, List.forall_mem_cons.mpr ⟨lw_p82, List.forall_mem_cons.mpr ⟨lw_p83, List.forall_mem_cons.mpr ⟨lw_p84, List.forall_mem_cons.mpr ⟨lw_p85, List.forall_mem_cons.mpr ⟨lw_p86, List.forall_mem_cons.mpr ⟨lw_p87, List.forall_mem_cons.mpr ⟨lw_p88, List.forall_mem_cons.mpr ⟨lw_p89, List.forall_mem_cons.mpr ⟨lw_p90, List.forall_mem_cons.mpr ⟨lw_p91, List.forall_mem_cons.mpr ⟨lw_p92, List.forall_mem_cons.mpr ⟨lw_p93, List.forall_mem_cons.mpr ⟨lw_p94, List.forall_mem_cons.mpr ⟨lw_p95, fun _ h => absurd h List.not_mem_nil⟩⟩⟩⟩⟩⟩⟩⟩⟩⟩⟩⟩⟩⟩⟩⟩
theorem lw_p96 : lw_okq (⟨"SungEvidenceModel", "canSing", "(IIII)Z"⟩, 59) := ⟨⟨by decide +kernel, by decide +kernel⟩, List.mem_of_getElem? (i := 1239) (by decide +kernel), List.mem_of_getElem? (i := 1655) (by decide +kernel), List.mem_of_getElem? (i := 1656) (by decide +kernel)⟩
theorem lw_p97 : lw_okq (⟨"SungEvidenceModel", "aboveOf", "(II)I"⟩, 59) := ⟨⟨by decide +kernel, by decide +kernel⟩, List.mem_of_getElem? (i := 1239) (by decide +kernel), List.mem_of_getElem? (i := 1659) (by decide +kernel), List.mem_of_getElem? (i := 1660) (by decide +kernel)⟩
theorem lw_p98 : lw_okq (⟨"SungEvidenceModel", "stepOf", "(II)I"⟩, 59) := ⟨⟨by decide +kernel, by decide +kernel⟩, List.mem_of_getElem? (i := 1239) (by decide +kernel), List.mem_of_getElem? (i := 1663) (by decide +kernel), List.mem_of_getElem? (i := 1664) (by decide +kernel)⟩
theorem lw_p99 : lw_okq (⟨"SungEvidenceModel", "barsFor", "(II)I"⟩, 59) := ⟨⟨by decide +kernel, by decide +kernel⟩, List.mem_of_getElem? (i := 1239) (by decide +kernel), List.mem_of_getElem? (i := 1667) (by decide +kernel), List.mem_of_getElem? (i := 1668) (by decide +kernel)⟩
theorem lw_p100 : lw_okq (⟨"SungEvidenceModel", "keepsAhead", "()V"⟩, 59) := ⟨⟨by decide +kernel, by decide +kernel⟩, List.mem_of_getElem? (i := 1239) (by decide +kernel), List.mem_of_getElem? (i := 1671) (by decide +kernel), List.mem_of_getElem? (i := 1672) (by decide +kernel)⟩
theorem lw_p101 : lw_okq (⟨"SungEvidenceModel", "sings", "(III)I"⟩, 59) := ⟨⟨by decide +kernel, by decide +kernel⟩, List.mem_of_getElem? (i := 1239) (by decide +kernel), List.mem_of_getElem? (i := 1675) (by decide +kernel), List.mem_of_getElem? (i := 1676) (by decide +kernel)⟩
theorem lw_p102 : lw_okq (⟨"SungEvidenceModel", "bars", "(I)V"⟩, 59) := ⟨⟨by decide +kernel, by decide +kernel⟩, List.mem_of_getElem? (i := 1239) (by decide +kernel), List.mem_of_getElem? (i := 1679) (by decide +kernel), List.mem_of_getElem? (i := 1680) (by decide +kernel)⟩
theorem lw_p103 : lw_okq (⟨"SungEvidenceModel", "draw", "(I)I"⟩, 59) := ⟨⟨by decide +kernel, by decide +kernel⟩, List.mem_of_getElem? (i := 1239) (by decide +kernel), List.mem_of_getElem? (i := 1683) (by decide +kernel), List.mem_of_getElem? (i := 1684) (by decide +kernel)⟩
theorem lw_p104 : lw_okq (⟨"SungEvidenceModel", "slipOf", "(IIIII)I"⟩, 59) := ⟨⟨by decide +kernel, by decide +kernel⟩, List.mem_of_getElem? (i := 1239) (by decide +kernel), List.mem_of_getElem? (i := 1689) (by decide +kernel), List.mem_of_getElem? (i := 1690) (by decide +kernel)⟩
theorem lw_p105 : lw_okq (⟨"SungEvidenceModel", "asks", "(IIII)V"⟩, 59) := ⟨⟨by decide +kernel, by decide +kernel⟩, List.mem_of_getElem? (i := 1239) (by decide +kernel), List.mem_of_getElem? (i := 1693) (by decide +kernel), List.mem_of_getElem? (i := 1694) (by decide +kernel)⟩
theorem lw_p106 : lw_okq (⟨"SungEvidenceModel", "nerveOf", "(I)I"⟩, 59) := ⟨⟨by decide +kernel, by decide +kernel⟩, List.mem_of_getElem? (i := 1239) (by decide +kernel), List.mem_of_getElem? (i := 1697) (by decide +kernel), List.mem_of_getElem? (i := 1698) (by decide +kernel)⟩
theorem lw_p107 : lw_okq (⟨"SungEvidenceModel", "sungBy", "(I)I"⟩, 59) := ⟨⟨by decide +kernel, by decide +kernel⟩, List.mem_of_getElem? (i := 1239) (by decide +kernel), List.mem_of_getElem? (i := 1701) (by decide +kernel), List.mem_of_getElem? (i := 1702) (by decide +kernel)⟩
theorem lw_p108 : lw_okq (⟨"SungEvidenceModel", "ofTestimony", "(II)I"⟩, 59) := ⟨⟨by decide +kernel, by decide +kernel⟩, List.mem_of_getElem? (i := 1239) (by decide +kernel), List.mem_of_getElem? (i := 1705) (by decide +kernel), List.mem_of_getElem? (i := 1706) (by decide +kernel)⟩
theorem lw_p109 : lw_okq (⟨"SungEvidenceModel", "lawTells", "(III)I"⟩, 59) := ⟨⟨by decide +kernel, by decide +kernel⟩, List.mem_of_getElem? (i := 1239) (by decide +kernel), List.mem_of_getElem? (i := 1709) (by decide +kernel), List.mem_of_getElem? (i := 1710) (by decide +kernel)⟩
theorem lw_p110 : lw_okq (⟨"SungEvidenceModel", "lineOf", "(I)I"⟩, 59) := ⟨⟨by decide +kernel, by decide +kernel⟩, List.mem_of_getElem? (i := 1239) (by decide +kernel), List.mem_of_getElem? (i := 1713) (by decide +kernel), List.mem_of_getElem? (i := 1714) (by decide +kernel)⟩
theorem lw_p111 : lw_okq (⟨"SungEvidenceModel", "runs", "(III)I"⟩, 59) := ⟨⟨by decide +kernel, by decide +kernel⟩, List.mem_of_getElem? (i := 1239) (by decide +kernel), List.mem_of_getElem? (i := 1717) (by decide +kernel), List.mem_of_getElem? (i := 1718) (by decide +kernel)⟩
def lw_privs_7 : List (MethodName × Nat) := [(⟨"SungEvidenceModel", "canSing", "(IIII)Z"⟩, 59), (⟨"SungEvidenceModel", "aboveOf", "(II)I"⟩, 59), (⟨"SungEvidenceModel", "stepOf", "(II)I"⟩, 59), (⟨"SungEvidenceModel", "barsFor", "(II)I"⟩, 59), (⟨"SungEvidenceModel", "keepsAhead", "()V"⟩, 59), (⟨"SungEvidenceModel", "sings", "(III)I"⟩, 59), (⟨"SungEvidenceModel", "bars", "(I)V"⟩, 59), (⟨"SungEvidenceModel", "draw", "(I)I"⟩, 59), (⟨"SungEvidenceModel", "slipOf", "(IIIII)I"⟩, 59), (⟨"SungEvidenceModel", "asks", "(IIII)V"⟩, 59), (⟨"SungEvidenceModel", "nerveOf", "(I)I"⟩, 59), (⟨"SungEvidenceModel", "sungBy", "(I)I"⟩, 59), (⟨"SungEvidenceModel", "ofTestimony", "(II)I"⟩, 59), (⟨"SungEvidenceModel", "lawTells", "(III)I"⟩, 59), (⟨"SungEvidenceModel", "lineOf", "(I)I"⟩, 59), (⟨"SungEvidenceModel", "runs", "(III)I"⟩, 59)]
theorem lw_r7 : ∀ q ∈ lw_privs_7, lw_okq q := List.forall_mem_cons.mpr ⟨lw_p96, List.forall_mem_cons.mpr ⟨lw_p97, List.forall_mem_cons.mpr ⟨lw_p98, List.forall_mem_cons.mpr ⟨lw_p99, List.forall_mem_cons.mpr ⟨lw_p100, List.forall_mem_cons.mpr ⟨lw_p101, List.forall_mem_cons.mpr ⟨lw_p102, List.forall_mem_cons.mpr ⟨lw_p103, List.forall_mem_cons.mpr ⟨lw_p104, List.forall_mem_cons.mpr ⟨lw_p105, List.forall_mem_cons.mpr ⟨lw_p106, List.forall_mem_cons.mpr ⟨lw_p107, List.forall_mem_cons.mpr ⟨lw_p108, List.forall_mem_cons.mpr ⟨lw_p109, List.forall_mem_cons.mpr ⟨lw_p110, List.forall_mem_cons.mpr ⟨lw_p111, fun _ h => absurd h List.not_mem_nil⟩⟩⟩⟩⟩⟩⟩⟩⟩⟩⟩⟩⟩⟩⟩⟩
theorem lw_p112 : lw_okq (⟨"SungEvidenceModel", "twoOf", "(III)I"⟩, 59) := ⟨⟨by decide +kernel, by decide +kernel⟩, List.mem_of_getElem? (i := 1239) (by decide +kernel), List.mem_of_getElem? (i := 1721) (by decide +kernel), List.mem_of_getElem? (i := 1722) (by decide +kernel)⟩
theorem lw_p113 : lw_okq (⟨"SungEvidenceModel", "shakeOf", "(III)I"⟩, 59) := ⟨⟨by decide +kernel, by decide +kernel⟩, List.mem_of_getElem? (i := 1239) (by decide +kernel), List.mem_of_getElem? (i := 1725) (by decide +kernel), List.mem_of_getElem? (i := 1726) (by decide +kernel)⟩
theorem lw_p114 : lw_okq (⟨"SungEvidenceModel", "notes", "(IIII)V"⟩, 59) := ⟨⟨by decide +kernel, by decide +kernel⟩, List.mem_of_getElem? (i := 1239) (by decide +kernel), List.mem_of_getElem? (i := 1729) (by decide +kernel), List.mem_of_getElem? (i := 1730) (by decide +kernel)⟩
theorem lw_p115 : lw_okq (⟨"SungEvidenceModel", "crosses", "(I)I"⟩, 59) := ⟨⟨by decide +kernel, by decide +kernel⟩, List.mem_of_getElem? (i := 1239) (by decide +kernel), List.mem_of_getElem? (i := 1737) (by decide +kernel), List.mem_of_getElem? (i := 1738) (by decide +kernel)⟩
theorem lw_p116 : lw_okq (⟨"SungEvidenceModel", "isTestimony", "(I)Z"⟩, 59) := ⟨⟨by decide +kernel, by decide +kernel⟩, List.mem_of_getElem? (i := 1239) (by decide +kernel), List.mem_of_getElem? (i := 1745) (by decide +kernel), List.mem_of_getElem? (i := 1746) (by decide +kernel)⟩
theorem lw_p117 : lw_okq (⟨"SungEvidenceModel", "isStruck", "(I)Z"⟩, 59) := ⟨⟨by decide +kernel, by decide +kernel⟩, List.mem_of_getElem? (i := 1239) (by decide +kernel), List.mem_of_getElem? (i := 1749) (by decide +kernel), List.mem_of_getElem? (i := 1750) (by decide +kernel)⟩
theorem lw_p118 : lw_okq (⟨"SungEvidenceModel", "restsDay", "()V"⟩, 59) := ⟨⟨by decide +kernel, by decide +kernel⟩, List.mem_of_getElem? (i := 1239) (by decide +kernel), List.mem_of_getElem? (i := 1757) (by decide +kernel), List.mem_of_getElem? (i := 1758) (by decide +kernel)⟩
theorem lw_p119 : lw_okq (⟨"SungEvidenceModel", "hoarseMany", "()I"⟩, 59) := ⟨⟨by decide +kernel, by decide +kernel⟩, List.mem_of_getElem? (i := 1239) (by decide +kernel), List.mem_of_getElem? (i := 1761) (by decide +kernel), List.mem_of_getElem? (i := 1762) (by decide +kernel)⟩
theorem lw_p120 : lw_okq (⟨"SungEvidenceModel", "restsOfTrial", "()I"⟩, 59) := ⟨⟨by decide +kernel, by decide +kernel⟩, List.mem_of_getElem? (i := 1239) (by decide +kernel), List.mem_of_getElem? (i := 1769) (by decide +kernel), List.mem_of_getElem? (i := 1770) (by decide +kernel)⟩
theorem lw_p121 : lw_okq (⟨"SungEvidenceModel", "ofDeed", "(II)I"⟩, 59) := ⟨⟨by decide +kernel, by decide +kernel⟩, List.mem_of_getElem? (i := 1239) (by decide +kernel), List.mem_of_getElem? (i := 1773) (by decide +kernel), List.mem_of_getElem? (i := 1774) (by decide +kernel)⟩
theorem lw_p122 : lw_okq (⟨"SungEvidenceModel", "isDone", "(I)Z"⟩, 59) := ⟨⟨by decide +kernel, by decide +kernel⟩, List.mem_of_getElem? (i := 1239) (by decide +kernel), List.mem_of_getElem? (i := 1777) (by decide +kernel), List.mem_of_getElem? (i := 1778) (by decide +kernel)⟩
theorem lw_p123 : lw_okq (⟨"SungEvidenceModel", "weighOf", "(IIII)I"⟩, 59) := ⟨⟨by decide +kernel, by decide +kernel⟩, List.mem_of_getElem? (i := 1239) (by decide +kernel), List.mem_of_getElem? (i := 1789) (by decide +kernel), List.mem_of_getElem? (i := 1790) (by decide +kernel)⟩
theorem lw_p124 : lw_okq (⟨"SungEvidenceModel", "findsKeys", "(II)V"⟩, 59) := ⟨⟨by decide +kernel, by decide +kernel⟩, List.mem_of_getElem? (i := 1239) (by decide +kernel), List.mem_of_getElem? (i := 1809) (by decide +kernel), List.mem_of_getElem? (i := 1810) (by decide +kernel)⟩
theorem lw_p125 : lw_okq (⟨"SungEvidenceModel", "unlikeTo", "(I)I"⟩, 59) := ⟨⟨by decide +kernel, by decide +kernel⟩, List.mem_of_getElem? (i := 1239) (by decide +kernel), List.mem_of_getElem? (i := 1827) (by decide +kernel), List.mem_of_getElem? (i := 1828) (by decide +kernel)⟩
theorem lw_p126 : lw_okq (⟨"SungEvidenceModel", "lesser", "(II)I"⟩, 59) := ⟨⟨by decide +kernel, by decide +kernel⟩, List.mem_of_getElem? (i := 1239) (by decide +kernel), List.mem_of_getElem? (i := 1831) (by decide +kernel), List.mem_of_getElem? (i := 1832) (by decide +kernel)⟩
theorem lw_p127 : lw_okq (⟨"SungEvidenceModel", "doSound", "(II)Z"⟩, 59) := ⟨⟨by decide +kernel, by decide +kernel⟩, List.mem_of_getElem? (i := 1239) (by decide +kernel), List.mem_of_getElem? (i := 1839) (by decide +kernel), List.mem_of_getElem? (i := 1840) (by decide +kernel)⟩
def lw_privs_8 : List (MethodName × Nat) := [(⟨"SungEvidenceModel", "twoOf", "(III)I"⟩, 59), (⟨"SungEvidenceModel", "shakeOf", "(III)I"⟩, 59), (⟨"SungEvidenceModel", "notes", "(IIII)V"⟩, 59), (⟨"SungEvidenceModel", "crosses", "(I)I"⟩, 59), (⟨"SungEvidenceModel", "isTestimony", "(I)Z"⟩, 59), (⟨"SungEvidenceModel", "isStruck", "(I)Z"⟩, 59), (⟨"SungEvidenceModel", "restsDay", "()V"⟩, 59), (⟨"SungEvidenceModel", "hoarseMany", "()I"⟩, 59), (⟨"SungEvidenceModel", "restsOfTrial", "()I"⟩, 59), (⟨"SungEvidenceModel", "ofDeed", "(II)I"⟩, 59), (⟨"SungEvidenceModel", "isDone", "(I)Z"⟩, 59), (⟨"SungEvidenceModel", "weighOf", "(IIII)I"⟩, 59), (⟨"SungEvidenceModel", "findsKeys", "(II)V"⟩, 59), (⟨"SungEvidenceModel", "unlikeTo", "(I)I"⟩, 59), (⟨"SungEvidenceModel", "lesser", "(II)I"⟩, 59), (⟨"SungEvidenceModel", "doSound", "(II)Z"⟩, 59)]
theorem lw_r8 : ∀ q ∈ lw_privs_8, lw_okq q := List.forall_mem_cons.mpr ⟨lw_p112, List.forall_mem_cons.mpr ⟨lw_p113, List.forall_mem_cons.mpr ⟨lw_p114, List.forall_mem_cons.mpr ⟨lw_p115, List.forall_mem_cons.mpr ⟨lw_p116, List.forall_mem_cons.mpr ⟨lw_p117, List.forall_mem_cons.mpr ⟨lw_p118, List.forall_mem_cons.mpr ⟨lw_p119, List.forall_mem_cons.mpr ⟨lw_p120, List.forall_mem_cons.mpr ⟨lw_p121, List.forall_mem_cons.mpr ⟨lw_p122, List.forall_mem_cons.mpr ⟨lw_p123, List.forall_mem_cons.mpr ⟨lw_p124, List.forall_mem_cons.mpr ⟨lw_p125, List.forall_mem_cons.mpr ⟨lw_p126, List.forall_mem_cons.mpr ⟨lw_p127, fun _ h => absurd h List.not_mem_nil⟩⟩⟩⟩⟩⟩⟩⟩⟩⟩⟩⟩⟩⟩⟩⟩
theorem lw_p128 : lw_okq (⟨"SungEvidenceModel", "soundNow", "()I"⟩, 59) := ⟨⟨by decide +kernel, by decide +kernel⟩, List.mem_of_getElem? (i := 1239) (by decide +kernel), List.mem_of_getElem? (i := 1843) (by decide +kernel), List.mem_of_getElem? (i := 1844) (by decide +kernel)⟩
theorem lw_p129 : lw_okq (⟨"SungEvidenceModel", "far", "(II)I"⟩, 59) := ⟨⟨by decide +kernel, by decide +kernel⟩, List.mem_of_getElem? (i := 1239) (by decide +kernel), List.mem_of_getElem? (i := 1847) (by decide +kernel), List.mem_of_getElem? (i := 1848) (by decide +kernel)⟩
theorem lw_p130 : lw_okq (⟨"SungEvidenceModel", "soundsWith", "(III)I"⟩, 59) := ⟨⟨by decide +kernel, by decide +kernel⟩, List.mem_of_getElem? (i := 1239) (by decide +kernel), List.mem_of_getElem? (i := 1855) (by decide +kernel), List.mem_of_getElem? (i := 1856) (by decide +kernel)⟩
theorem lw_p131 : lw_okq (⟨"SungEvidenceModel", "greater", "(II)I"⟩, 59) := ⟨⟨by decide +kernel, by decide +kernel⟩, List.mem_of_getElem? (i := 1239) (by decide +kernel), List.mem_of_getElem? (i := 1859) (by decide +kernel), List.mem_of_getElem? (i := 1860) (by decide +kernel)⟩
theorem lw_p132 : lw_okq (⟨"SungEvidenceModel", "weighedFor", "(II)I"⟩, 59) := ⟨⟨by decide +kernel, by decide +kernel⟩, List.mem_of_getElem? (i := 1239) (by decide +kernel), List.mem_of_getElem? (i := 1871) (by decide +kernel), List.mem_of_getElem? (i := 1872) (by decide +kernel)⟩
theorem lw_p133 : lw_okq (⟨"SungEvidenceModel", "flatsNow", "()I"⟩, 59) := ⟨⟨by decide +kernel, by decide +kernel⟩, List.mem_of_getElem? (i := 1239) (by decide +kernel), List.mem_of_getElem? (i := 1875) (by decide +kernel), List.mem_of_getElem? (i := 1876) (by decide +kernel)⟩
theorem lw_p134 : lw_okq (⟨"SungEvidenceModel", "isFoundWith", "(III)Z"⟩, 59) := ⟨⟨by decide +kernel, by decide +kernel⟩, List.mem_of_getElem? (i := 1239) (by decide +kernel), List.mem_of_getElem? (i := 1883) (by decide +kernel), List.mem_of_getElem? (i := 1884) (by decide +kernel)⟩
theorem lw_p135 : lw_okq (⟨"SungEvidenceModel", "needNow", "()I"⟩, 59) := ⟨⟨by decide +kernel, by decide +kernel⟩, List.mem_of_getElem? (i := 1239) (by decide +kernel), List.mem_of_getElem? (i := 1887) (by decide +kernel), List.mem_of_getElem? (i := 1888) (by decide +kernel)⟩
theorem lw_p136 : lw_okq (⟨"SungEvidenceModel", "singersFor", "(II)I"⟩, 59) := ⟨⟨by decide +kernel, by decide +kernel⟩, List.mem_of_getElem? (i := 1239) (by decide +kernel), List.mem_of_getElem? (i := 1895) (by decide +kernel), List.mem_of_getElem? (i := 1896) (by decide +kernel)⟩
theorem lw_p137 : lw_okq (⟨"SungEvidenceModel", "onesOf", "(I)I"⟩, 59) := ⟨⟨by decide +kernel, by decide +kernel⟩, List.mem_of_getElem? (i := 1239) (by decide +kernel), List.mem_of_getElem? (i := 1899) (by decide +kernel), List.mem_of_getElem? (i := 1900) (by decide +kernel)⟩
theorem lw_p138 : lw_okq (⟨"SungEvidenceModel", "isChoir", "(I)Z"⟩, 59) := ⟨⟨by decide +kernel, by decide +kernel⟩, List.mem_of_getElem? (i := 1239) (by decide +kernel), List.mem_of_getElem? (i := 1907) (by decide +kernel), List.mem_of_getElem? (i := 1908) (by decide +kernel)⟩
theorem lw_p139 : lw_okq (⟨"SungEvidenceModel", "doAgree", "(II)Z"⟩, 59) := ⟨⟨by decide +kernel, by decide +kernel⟩, List.mem_of_getElem? (i := 1239) (by decide +kernel), List.mem_of_getElem? (i := 1911) (by decide +kernel), List.mem_of_getElem? (i := 1912) (by decide +kernel)⟩
theorem lw_p140 : lw_okq (⟨"SungEvidenceModel", "findsWorlds", "(I)I"⟩, 59) := ⟨⟨by decide +kernel, by decide +kernel⟩, List.mem_of_getElem? (i := 1239) (by decide +kernel), List.mem_of_getElem? (i := 1919) (by decide +kernel), List.mem_of_getElem? (i := 1920) (by decide +kernel)⟩
theorem lw_p141 : lw_okq (⟨"SungEvidenceModel", "liarsIn", "(I)I"⟩, 59) := ⟨⟨by decide +kernel, by decide +kernel⟩, List.mem_of_getElem? (i := 1239) (by decide +kernel), List.mem_of_getElem? (i := 1923) (by decide +kernel), List.mem_of_getElem? (i := 1924) (by decide +kernel)⟩
theorem lw_p142 : lw_okq (⟨"SungEvidenceModel", "valueIn", "(II)I"⟩, 59) := ⟨⟨by decide +kernel, by decide +kernel⟩, List.mem_of_getElem? (i := 1239) (by decide +kernel), List.mem_of_getElem? (i := 1927) (by decide +kernel), List.mem_of_getElem? (i := 1928) (by decide +kernel)⟩
theorem lw_p143 : lw_okq (⟨"SungEvidenceModel", "mostIn", "(I)I"⟩, 59) := ⟨⟨by decide +kernel, by decide +kernel⟩, List.mem_of_getElem? (i := 1239) (by decide +kernel), List.mem_of_getElem? (i := 1931) (by decide +kernel), List.mem_of_getElem? (i := 1932) (by decide +kernel)⟩
def lw_privs_9 : List (MethodName × Nat) := [(⟨"SungEvidenceModel", "soundNow", "()I"⟩, 59), (⟨"SungEvidenceModel", "far", "(II)I"⟩, 59), (⟨"SungEvidenceModel", "soundsWith", "(III)I"⟩, 59), (⟨"SungEvidenceModel", "greater", "(II)I"⟩, 59), (⟨"SungEvidenceModel", "weighedFor", "(II)I"⟩, 59), (⟨"SungEvidenceModel", "flatsNow", "()I"⟩, 59), (⟨"SungEvidenceModel", "isFoundWith", "(III)Z"⟩, 59), (⟨"SungEvidenceModel", "needNow", "()I"⟩, 59), (⟨"SungEvidenceModel", "singersFor", "(II)I"⟩, 59), (⟨"SungEvidenceModel", "onesOf", "(I)I"⟩, 59), (⟨"SungEvidenceModel", "isChoir", "(I)Z"⟩, 59), (⟨"SungEvidenceModel", "doAgree", "(II)Z"⟩, 59), (⟨"SungEvidenceModel", "findsWorlds", "(I)I"⟩, 59), (⟨"SungEvidenceModel", "liarsIn", "(I)I"⟩, 59), (⟨"SungEvidenceModel", "valueIn", "(II)I"⟩, 59), (⟨"SungEvidenceModel", "mostIn", "(I)I"⟩, 59)]
theorem lw_r9 : ∀ q ∈ lw_privs_9, lw_okq q := List.forall_mem_cons.mpr ⟨lw_p128, List.forall_mem_cons.mpr ⟨lw_p129, List.forall_mem_cons.mpr ⟨lw_p130, List.forall_mem_cons.mpr ⟨lw_p131, List.forall_mem_cons.mpr ⟨lw_p132, List.forall_mem_cons.mpr ⟨lw_p133, List.forall_mem_cons.mpr ⟨lw_p134, List.forall_mem_cons.mpr ⟨lw_p135, List.forall_mem_cons.mpr ⟨lw_p136, List.forall_mem_cons.mpr ⟨lw_p137, List.forall_mem_cons.mpr ⟨lw_p138, List.forall_mem_cons.mpr ⟨lw_p139, List.forall_mem_cons.mpr ⟨lw_p140, List.forall_mem_cons.mpr ⟨lw_p141, List.forall_mem_cons.mpr ⟨lw_p142, List.forall_mem_cons.mpr ⟨lw_p143, fun _ h => absurd h List.not_mem_nil⟩⟩⟩⟩⟩⟩⟩⟩⟩⟩⟩⟩⟩⟩⟩⟩
theorem lw_p144 : lw_okq (⟨"SungEvidenceModel", "areWitnesses", "(IIII)Z"⟩, 59) := ⟨⟨by decide +kernel, by decide +kernel⟩, List.mem_of_getElem? (i := 1239) (by decide +kernel), List.mem_of_getElem? (i := 1939) (by decide +kernel), List.mem_of_getElem? (i := 1940) (by decide +kernel)⟩
theorem lw_p145 : lw_okq (⟨"SungEvidenceModel", "isUnlike", "(IIII)Z"⟩, 59) := ⟨⟨by decide +kernel, by decide +kernel⟩, List.mem_of_getElem? (i := 1239) (by decide +kernel), List.mem_of_getElem? (i := 1943) (by decide +kernel), List.mem_of_getElem? (i := 1944) (by decide +kernel)⟩
theorem lw_p146 : lw_okq (⟨"SungEvidenceModel", "keeps", "(I)I"⟩, 59) := ⟨⟨by decide +kernel, by decide +kernel⟩, List.mem_of_getElem? (i := 1239) (by decide +kernel), List.mem_of_getElem? (i := 1951) (by decide +kernel), List.mem_of_getElem? (i := 1952) (by decide +kernel)⟩
theorem lw_p147 : lw_okq (⟨"SungEvidenceModel", "keepsTold", "()V"⟩, 59) := ⟨⟨by decide +kernel, by decide +kernel⟩, List.mem_of_getElem? (i := 1239) (by decide +kernel), List.mem_of_getElem? (i := 1955) (by decide +kernel), List.mem_of_getElem? (i := 1956) (by decide +kernel)⟩
theorem lw_p148 : lw_okq (⟨"SungEvidenceModel", "keepsLaw", "()V"⟩, 59) := ⟨⟨by decide +kernel, by decide +kernel⟩, List.mem_of_getElem? (i := 1239) (by decide +kernel), List.mem_of_getElem? (i := 1959) (by decide +kernel), List.mem_of_getElem? (i := 1960) (by decide +kernel)⟩
def lw_privs_10 : List (MethodName × Nat) := [(⟨"SungEvidenceModel", "areWitnesses", "(IIII)Z"⟩, 59), (⟨"SungEvidenceModel", "isUnlike", "(IIII)Z"⟩, 59), (⟨"SungEvidenceModel", "keeps", "(I)I"⟩, 59), (⟨"SungEvidenceModel", "keepsTold", "()V"⟩, 59), (⟨"SungEvidenceModel", "keepsLaw", "()V"⟩, 59)]
theorem lw_r10 : ∀ q ∈ lw_privs_10, lw_okq q := List.forall_mem_cons.mpr ⟨lw_p144, List.forall_mem_cons.mpr ⟨lw_p145, List.forall_mem_cons.mpr ⟨lw_p146, List.forall_mem_cons.mpr ⟨lw_p147, List.forall_mem_cons.mpr ⟨lw_p148, fun _ h => absurd h List.not_mem_nil⟩⟩⟩⟩⟩
def lw_privs : List (MethodName × Nat) := lw_privs_1 ++ (lw_privs_2 ++ (lw_privs_3 ++ (lw_privs_4 ++ (lw_privs_5 ++ (lw_privs_6 ++ (lw_privs_7 ++ (lw_privs_8 ++ (lw_privs_9 ++ (lw_privs_10)))))))))
def lw_tbl : List Cond := k2_sels lw_privs ++ tables_1
theorem lw_privs_ok : ∀ q ∈ lw_privs, lw_okq q := by
  show ∀ q ∈ lw_privs_1 ++ (lw_privs_2 ++ (lw_privs_3 ++ (lw_privs_4 ++ (lw_privs_5 ++ (lw_privs_6 ++ (lw_privs_7 ++ (lw_privs_8 ++ (lw_privs_9 ++ (lw_privs_10))))))))), lw_okq q
  exact List.forall_mem_append.mpr ⟨lw_r1, List.forall_mem_append.mpr ⟨lw_r2, List.forall_mem_append.mpr ⟨lw_r3, List.forall_mem_append.mpr ⟨lw_r4, List.forall_mem_append.mpr ⟨lw_r5, List.forall_mem_append.mpr ⟨lw_r6, List.forall_mem_append.mpr ⟨lw_r7, List.forall_mem_append.mpr ⟨lw_r8, List.forall_mem_append.mpr ⟨lw_r9, lw_r10⟩⟩⟩⟩⟩⟩⟩⟩⟩
-- ===== end of PART A; then your names; then what follows =====
end
section
/-! ===== BEGIN words of one list among another's, by their places ===== -/
theorem goodIn_r {big : List Cond} (ws : List Cond) (ps : List Nat) (hp : ws = ps.filterMap (fun i => big[i]?)) (h : ws.all goodWord = true) : GoodIn big ws := by
  intro w hw
  have h1 := List.all_eq_true.mp h w hw
  rw [hp] at hw
  obtain ⟨i, -, hi⟩ := List.mem_filterMap.mp hw
  have hm : w ∈ big := by first | exact List.mem_of_getElem? hi | exact List.getElem?_mem hi
  exact ⟨hm, good_of_word h1⟩
theorem goodIn_app {big a b : List Cond} (ha : GoodIn big a) (hb : GoodIn big b) : GoodIn big (a ++ b) := fun w h => (List.mem_append.mp h).elim (ha w) (hb w)
theorem goodIn_ca {big a b : List Cond} {c : Cond} (ha : GoodIn big (c :: a)) (hb : GoodIn big b) : GoodIn big (c :: (a ++ b)) := fun w h => (List.mem_cons.mp h).elim (fun e => ha w (List.mem_cons.mpr (Or.inl e))) (fun h => (List.mem_append.mp h).elim (fun h => ha w (List.mem_cons.mpr (Or.inr h))) (hb w))
theorem goodIn_sub {big ws : List Cond} (hm : ∀ w ∈ ws, w ∈ big) (h : ws.all goodWord = true) : GoodIn big ws := fun w hw => ⟨hm w hw, good_of_word (List.all_eq_true.mp h w hw)⟩
/-! ===== END ===== -/

/-! ===== BEGIN printed: names, fields, word lists, decode rows ===== -/
def RX0 : String := "SungEvidence$Bench"
def TX0 : u_T := fun k => match k with
  | 0 => ("SungEvidence$Bench", "told", "LSungEvidence$Told;", true)
  | 1 => ("SungEvidence$Bench", "court", "LSungEvidence$Court;", true)
  | _ => ("SungEvidence$Bench", "terms", "[I", true)
def tyX0 : Nat → FieldType := fun k => match k with
  | 0 => .object "SungEvidence$Told"
  | 1 => .object "SungEvidence$Court"
  | _ => .array .int
abbrev wsX00 : List Cond := u_ws RX0 TX0 3
theorem nmX0 : ∀ a, a < 3 → ∀ b, b < 3 → a ≠ b → (TX0 a).2.1 ≠ (TX0 b).2.1 := by decide +kernel
theorem tyX0_ok : ∀ k, k < 3 → parseFieldDescriptor (TX0 k).2.2.1 = some (tyX0 k) := by decide +kernel
abbrev cX0_init : ByteArray := prog_2_method_1_code
def yX0_init : MethodName := ⟨RX0, "<init>", "(LSungEvidence$Told;LSungEvidence$Court;)V"⟩
abbrev cX0_motiveOf : ByteArray := prog_2_method_2_code
def yX0_motiveOf : MethodName := ⟨RX0, "motiveOf", "(II)I"⟩
abbrev cX0_lowestKey : ByteArray := prog_2_method_3_code
def yX0_lowestKey : MethodName := ⟨RX0, "lowestKey", "(II)I"⟩
abbrev cX0_highestKey : ByteArray := prog_2_method_4_code
def yX0_highestKey : MethodName := ⟨RX0, "highestKey", "(II)I"⟩
abbrev cX0_howManyKeys : ByteArray := prog_2_method_5_code
def yX0_howManyKeys : MethodName := ⟨RX0, "howManyKeys", "(II)I"⟩
abbrev cX0_canSing : ByteArray := prog_2_method_6_code
def yX0_canSing : MethodName := ⟨RX0, "canSing", "(III)Z"⟩
abbrev cX0_slipOf : ByteArray := prog_2_method_7_code
def yX0_slipOf : MethodName := ⟨RX0, "slipOf", "(IIII)I"⟩
abbrev cX0_shakeOf : ByteArray := prog_2_method_8_code
def yX0_shakeOf : MethodName := ⟨RX0, "shakeOf", "(II)I"⟩
abbrev cX0_weightOf : ByteArray := prog_2_method_9_code
def yX0_weightOf : MethodName := ⟨RX0, "weightOf", "(III)I"⟩
abbrev cX0_weightOfTestimony : ByteArray := prog_2_method_10_code
def yX0_weightOfTestimony : MethodName := ⟨RX0, "weightOfTestimony", "(I)I"⟩
abbrev cX0_setTerms : ByteArray := prog_2_method_11_code
def yX0_setTerms : MethodName := ⟨RX0, "setTerms", "(II)V"⟩
def RX1 : String := "SungEvidence$Court"
def TX1 : u_T := fun k => match k with
  | 0 => ("SungEvidence$Court", "drawState", "I", false)
  | 1 => ("SungEvidence$Court", "day", "I", false)
  | 2 => ("SungEvidence$Court", "nerves", "[I", true)
  | 3 => ("SungEvidence$Court", "hoarse", "[I", true)
  | 4 => ("SungEvidence$Court", "testimonies", "I", false)
  | 5 => ("SungEvidence$Court", "testimonyCells", "[I", true)
  | 6 => ("SungEvidence$Court", "bars", "I", false)
  | 7 => ("SungEvidence$Court", "record", "[I", true)
  | 8 => ("SungEvidence$Court", "lines", "I", false)
  | _ => ("SungEvidence$Court", "book", "[I", true)
def tyX1 : Nat → FieldType := fun k => match k with
  | 0 => .int
  | 1 => .int
  | 2 => .array .int
  | 3 => .array .int
  | 4 => .int
  | 5 => .array .int
  | 6 => .int
  | 7 => .array .int
  | 8 => .int
  | _ => .array .int
abbrev wsX10 : List Cond := u_ws RX1 TX1 10
theorem nmX1 : ∀ a, a < 10 → ∀ b, b < 10 → a ≠ b → (TX1 a).2.1 ≠ (TX1 b).2.1 := by decide +kernel
theorem tyX1_ok : ∀ k, k < 10 → parseFieldDescriptor (TX1 k).2.2.1 = some (tyX1 k) := by decide +kernel
abbrev cX1_init : ByteArray := prog_3_method_1_code
def yX1_init : MethodName := ⟨RX1, "<init>", "()V"⟩
abbrev cX1_copyFrom : ByteArray := prog_3_method_2_code
def yX1_copyFrom : MethodName := ⟨RX1, "copyFrom", "(LSungEvidence$Court;)V"⟩
abbrev cX1_draw : ByteArray := prog_3_method_3_code
def yX1_draw : MethodName := ⟨RX1, "draw", "(I)I"⟩
abbrev cX1_isTestimony : ByteArray := prog_3_method_4_code
def yX1_isTestimony : MethodName := ⟨RX1, "isTestimony", "(I)Z"⟩
abbrev cX1_ofTestimony : ByteArray := prog_3_method_5_code
def yX1_ofTestimony : MethodName := ⟨RX1, "ofTestimony", "(II)I"⟩
abbrev cX1_hasRoom : ByteArray := prog_3_method_6_code
def yX1_hasRoom : MethodName := ⟨RX1, "hasRoom", "(I)Z"⟩
abbrev cX1_addBar : ByteArray := prog_3_method_7_code
def yX1_addBar : MethodName := ⟨RX1, "addBar", "(I)V"⟩
abbrev cX1_addTestimony : ByteArray := prog_3_method_8_code
def yX1_addTestimony : MethodName := ⟨RX1, "addTestimony", "(IIII)V"⟩
abbrev cX1_barOf : ByteArray := prog_3_method_9_code
def yX1_barOf : MethodName := ⟨RX1, "barOf", "(II)I"⟩
abbrev cX1_sungBy : ByteArray := prog_3_method_10_code
def yX1_sungBy : MethodName := ⟨RX1, "sungBy", "(I)I"⟩
abbrev cX1_howManyHoarse : ByteArray := prog_3_method_11_code
def yX1_howManyHoarse : MethodName := ⟨RX1, "howManyHoarse", "(I)I"⟩
abbrev cX1_strikeOut : ByteArray := prog_3_method_12_code
def yX1_strikeOut : MethodName := ⟨RX1, "strikeOut", "(I)V"⟩
abbrev cX1_write : ByteArray := prog_3_method_13_code
def yX1_write : MethodName := ⟨RX1, "write", "(IIII)V"⟩
def RX2 : String := "SungEvidence$Deeds"
def TX2 : u_T := fun k => match k with
  | 0 => ("SungEvidence$Deeds", "bench", "LSungEvidence$Bench;", true)
  | 1 => ("SungEvidence$Deeds", "told", "LSungEvidence$Told;", true)
  | _ => ("SungEvidence$Deeds", "court", "LSungEvidence$Court;", true)
def tyX2 : Nat → FieldType := fun k => match k with
  | 0 => .object "SungEvidence$Bench"
  | 1 => .object "SungEvidence$Told"
  | _ => .object "SungEvidence$Court"
abbrev wsX20 : List Cond := u_ws RX2 TX2 3
theorem nmX2 : ∀ a, a < 3 → ∀ b, b < 3 → a ≠ b → (TX2 a).2.1 ≠ (TX2 b).2.1 := by decide +kernel
theorem tyX2_ok : ∀ k, k < 3 → parseFieldDescriptor (TX2 k).2.2.1 = some (tyX2 k) := by decide +kernel
abbrev cX2_init : ByteArray := prog_4_method_1_code
def yX2_init : MethodName := ⟨RX2, "<init>", "(LSungEvidence$Bench;)V"⟩
abbrev cX2_canBeCalled : ByteArray := prog_4_method_2_code
def yX2_canBeCalled : MethodName := ⟨RX2, "canBeCalled", "(III)Z"⟩
abbrev cX2_barsOf : ByteArray := prog_4_method_3_code
def yX2_barsOf : MethodName := ⟨RX2, "barsOf", "(II)I"⟩
abbrev cX2_sing : ByteArray := prog_4_method_4_code
def yX2_sing : MethodName := ⟨RX2, "sing", "(III)I"⟩
abbrev cX2_singNotes : ByteArray := prog_4_method_5_code
def yX2_singNotes : MethodName := ⟨RX2, "singNotes", "(III)I"⟩
abbrev cX2_crossExamine : ByteArray := prog_4_method_6_code
def yX2_crossExamine : MethodName := ⟨RX2, "crossExamine", "(I)V"⟩
abbrev cX2_loseNerve : ByteArray := prog_4_method_7_code
def yX2_loseNerve : MethodName := ⟨RX2, "loseNerve", "(II)V"⟩
abbrev cX2_restOneDay : ByteArray := prog_4_method_8_code
def yX2_restOneDay : MethodName := ⟨RX2, "restOneDay", "()V"⟩
abbrev cX2_goThrough : ByteArray := prog_4_method_9_code
def yX2_goThrough : MethodName := ⟨RX2, "goThrough", "(LSungEvidence$Plan;)I"⟩
def RX3 : String := "SungEvidence$Law"
def TX3 : u_T := fun k => match k with
  | 0 => ("SungEvidence$Law", "lines", "I", false)
  | 1 => ("SungEvidence$Law", "orders", "I", false)
  | 2 => ("SungEvidence$Law", "order", "[I", true)
  | 3 => ("SungEvidence$Law", "words", "[I", true)
  | 4 => ("SungEvidence$Law", "starts", "[I", true)
  | 5 => ("SungEvidence$Law", "conditions", "[I", true)
  | 6 => ("SungEvidence$Law", "ends", "[I", true)
  | _ => ("SungEvidence$Law", "stack", "[I", true)
def tyX3 : Nat → FieldType := fun k => match k with
  | 0 => .int
  | 1 => .int
  | 2 => .array .int
  | 3 => .array .int
  | 4 => .array .int
  | 5 => .array .int
  | 6 => .array .int
  | _ => .array .int
abbrev wsX30 : List Cond := u_ws RX3 TX3 8
theorem nmX3 : ∀ a, a < 8 → ∀ b, b < 8 → a ≠ b → (TX3 a).2.1 ≠ (TX3 b).2.1 := by decide +kernel
theorem tyX3_ok : ∀ k, k < 8 → parseFieldDescriptor (TX3 k).2.2.1 = some (tyX3 k) := by decide +kernel
abbrev cX3_init : ByteArray := prog_5_method_1_code
def yX3_init : MethodName := ⟨RX3, "<init>", "()V"⟩
abbrev cX3_copyFrom : ByteArray := prog_5_method_2_code
def yX3_copyFrom : MethodName := ⟨RX3, "copyFrom", "(LSungEvidence$Law;)V"⟩
abbrev cX3_clear : ByteArray := prog_5_method_3_code
def yX3_clear : MethodName := ⟨RX3, "clear", "()V"⟩
abbrev cX3_addOrder : ByteArray := prog_5_method_4_code
def yX3_addOrder : MethodName := ⟨RX3, "addOrder", "(II)Z"⟩
abbrev cX3_openLine : ByteArray := prog_5_method_5_code
def yX3_openLine : MethodName := ⟨RX3, "openLine", "(I)V"⟩
abbrev cX3_openCondition : ByteArray := prog_5_method_6_code
def yX3_openCondition : MethodName := ⟨RX3, "openCondition", "()V"⟩
abbrev cX3_closeLine : ByteArray := prog_5_method_7_code
def yX3_closeLine : MethodName := ⟨RX3, "closeLine", "()V"⟩
abbrev cX3_tell : ByteArray := prog_5_method_8_code
def yX3_tell : MethodName := ⟨RX3, "tell", "(I[II)I"⟩
abbrev cX3_worth : ByteArray := prog_5_method_9_code
def yX3_worth : MethodName := ⟨RX3, "worth", "(II[I)I"⟩
abbrev cX3_joined : ByteArray := prog_5_method_10_code
def yX3_joined : MethodName := ⟨RX3, "joined", "(III)I"⟩
def RX4 : String := "SungEvidence$LawReader"
def TX4 : u_T := fun k => match k with
  | 0 => ("SungEvidence$LawReader", "tape", "LSungEvidence$Tape;", true)
  | _ => ("SungEvidence$LawReader", "law", "LSungEvidence$Law;", true)
def tyX4 : Nat → FieldType := fun k => match k with
  | 0 => .object "SungEvidence$Tape"
  | _ => .object "SungEvidence$Law"
abbrev wsX40 : List Cond := u_ws RX4 TX4 2
theorem nmX4 : ∀ a, a < 2 → ∀ b, b < 2 → a ≠ b → (TX4 a).2.1 ≠ (TX4 b).2.1 := by decide +kernel
theorem tyX4_ok : ∀ k, k < 2 → parseFieldDescriptor (TX4 k).2.2.1 = some (tyX4 k) := by decide +kernel
abbrev cX4_init : ByteArray := prog_6_method_1_code
def yX4_init : MethodName := ⟨RX4, "<init>", "(LSungEvidence$Tape;LSungEvidence$Law;)V"⟩
abbrev cX4_readLines : ByteArray := prog_6_method_2_code
def yX4_readLines : MethodName := ⟨RX4, "readLines", "()Z"⟩
abbrev cX4_readCondition : ByteArray := prog_6_method_3_code
def yX4_readCondition : MethodName := ⟨RX4, "readCondition", "(I)Z"⟩
abbrev cX4_readTest : ByteArray := prog_6_method_4_code
def yX4_readTest : MethodName := ⟨RX4, "readTest", "(I)Z"⟩
abbrev cX4_comparisonOf : ByteArray := prog_6_method_5_code
def yX4_comparisonOf : MethodName := ⟨RX4, "comparisonOf", "(I)I"⟩
abbrev cX4_readSum : ByteArray := prog_6_method_6_code
def yX4_readSum : MethodName := ⟨RX4, "readSum", "()Z"⟩
abbrev cX4_readProduct : ByteArray := prog_6_method_7_code
def yX4_readProduct : MethodName := ⟨RX4, "readProduct", "()Z"⟩
abbrev cX4_readUnit : ByteArray := prog_6_method_8_code
def yX4_readUnit : MethodName := ⟨RX4, "readUnit", "()Z"⟩
def RX5 : String := "SungEvidence$Motives"
def TX5 : u_T := fun k => match k with
  | 0 => ("SungEvidence$Motives", "lines", "I", false)
  | 1 => ("SungEvidence$Motives", "notes", "[I", true)
  | _ => ("SungEvidence$Motives", "steps", "[I", true)
def tyX5 : Nat → FieldType := fun k => match k with
  | 0 => .int
  | 1 => .array .int
  | _ => .array .int
abbrev wsX50 : List Cond := u_ws RX5 TX5 3
theorem nmX5 : ∀ a, a < 3 → ∀ b, b < 3 → a ≠ b → (TX5 a).2.1 ≠ (TX5 b).2.1 := by decide +kernel
theorem tyX5_ok : ∀ k, k < 3 → parseFieldDescriptor (TX5 k).2.2.1 = some (tyX5 k) := by decide +kernel
abbrev cX5_init : ByteArray := prog_7_method_1_code
def yX5_init : MethodName := ⟨RX5, "<init>", "()V"⟩
abbrev cX5_copyFrom : ByteArray := prog_7_method_2_code
def yX5_copyFrom : MethodName := ⟨RX5, "copyFrom", "(LSungEvidence$Motives;)V"⟩
abbrev cX5_stepOf : ByteArray := prog_7_method_3_code
def yX5_stepOf : MethodName := ⟨RX5, "stepOf", "(II)I"⟩
abbrev cX5_rise : ByteArray := prog_7_method_4_code
def yX5_rise : MethodName := ⟨RX5, "rise", "(I)I"⟩
abbrev cX5_fall : ByteArray := prog_7_method_5_code
def yX5_fall : MethodName := ⟨RX5, "fall", "(I)I"⟩
abbrev cX5_readFrom : ByteArray := prog_7_method_6_code
def yX5_readFrom : MethodName := ⟨RX5, "readFrom", "(LSungEvidence$Tape;)Z"⟩
abbrev cX5_readLine : ByteArray := prog_7_method_7_code
def yX5_readLine : MethodName := ⟨RX5, "readLine", "(LSungEvidence$Tape;)Z"⟩
abbrev cX5_readSteps : ByteArray := prog_7_method_8_code
def yX5_readSteps : MethodName := ⟨RX5, "readSteps", "(LSungEvidence$Tape;I)Z"⟩
abbrev cX5_readStep : ByteArray := prog_7_method_9_code
def yX5_readStep : MethodName := ⟨RX5, "readStep", "(LSungEvidence$Tape;I)I"⟩
def RX6 : String := "SungEvidence$Plan"
def TX6 : u_T := fun k => match k with
  | 0 => ("SungEvidence$Plan", "howMany", "I", false)
  | 1 => ("SungEvidence$Plan", "kinds", "[I", true)
  | 2 => ("SungEvidence$Plan", "who", "[I", true)
  | 3 => ("SungEvidence$Plan", "facts", "[I", true)
  | 4 => ("SungEvidence$Plan", "inKeys", "[I", true)
  | 5 => ("SungEvidence$Plan", "againFrom", "[I", true)
  | 6 => ("SungEvidence$Plan", "againTimes", "[I", true)
  | _ => ("SungEvidence$Plan", "open", "I", false)
def tyX6 : Nat → FieldType := fun k => match k with
  | 0 => .int
  | 1 => .array .int
  | 2 => .array .int
  | 3 => .array .int
  | 4 => .array .int
  | 5 => .array .int
  | 6 => .array .int
  | _ => .int
abbrev wsX60 : List Cond := u_ws RX6 TX6 8
theorem nmX6 : ∀ a, a < 8 → ∀ b, b < 8 → a ≠ b → (TX6 a).2.1 ≠ (TX6 b).2.1 := by decide +kernel
theorem tyX6_ok : ∀ k, k < 8 → parseFieldDescriptor (TX6 k).2.2.1 = some (tyX6 k) := by decide +kernel
abbrev cX6_init : ByteArray := prog_8_method_1_code
def yX6_init : MethodName := ⟨RX6, "<init>", "()V"⟩
abbrev cX6_copyFrom : ByteArray := prog_8_method_2_code
def yX6_copyFrom : MethodName := ⟨RX6, "copyFrom", "(LSungEvidence$Plan;)V"⟩
abbrev cX6_rests : ByteArray := prog_8_method_3_code
def yX6_rests : MethodName := ⟨RX6, "rests", "()I"⟩
abbrev cX6_readFrom : ByteArray := prog_8_method_4_code
def yX6_readFrom : MethodName := ⟨RX6, "readFrom", "(LSungEvidence$Tape;I)Z"⟩
abbrev cX6_readEnd : ByteArray := prog_8_method_5_code
def yX6_readEnd : MethodName := ⟨RX6, "readEnd", "(LSungEvidence$Tape;)Z"⟩
abbrev cX6_readDeed : ByteArray := prog_8_method_6_code
def yX6_readDeed : MethodName := ⟨RX6, "readDeed", "(LSungEvidence$Tape;I)Z"⟩
abbrev cX6_readCall : ByteArray := prog_8_method_7_code
def yX6_readCall : MethodName := ⟨RX6, "readCall", "(LSungEvidence$Tape;I)Z"⟩
abbrev cX6_readCross : ByteArray := prog_8_method_8_code
def yX6_readCross : MethodName := ⟨RX6, "readCross", "(LSungEvidence$Tape;I)Z"⟩
abbrev cX6_readAgain : ByteArray := prog_8_method_9_code
def yX6_readAgain : MethodName := ⟨RX6, "readAgain", "(LSungEvidence$Tape;)Z"⟩
abbrev cX6_closeAgain : ByteArray := prog_8_method_10_code
def yX6_closeAgain : MethodName := ⟨RX6, "closeAgain", "(LSungEvidence$Tape;)Z"⟩
abbrev cX6_copyDeed : ByteArray := prog_8_method_11_code
def yX6_copyDeed : MethodName := ⟨RX6, "copyDeed", "(II)V"⟩
abbrev cX6_addDeed : ByteArray := prog_8_method_12_code
def yX6_addDeed : MethodName := ⟨RX6, "addDeed", "(IIII)V"⟩
def RX7 : String := "SungEvidence$Tape"
def TX7 : u_T := fun k => match k with
  | 0 => ("SungEvidence$Tape", "bytes", "[I", true)
  | 1 => ("SungEvidence$Tape", "length", "I", false)
  | 2 => ("SungEvidence$Tape", "fault", "I", false)
  | 3 => ("SungEvidence$Tape", "faultPlace", "I", false)
  | 4 => ("SungEvidence$Tape", "kinds", "[I", true)
  | 5 => ("SungEvidence$Tape", "places", "[I", true)
  | 6 => ("SungEvidence$Tape", "sizes", "[I", true)
  | 7 => ("SungEvidence$Tape", "tokens", "I", false)
  | _ => ("SungEvidence$Tape", "at", "I", false)
def tyX7 : Nat → FieldType := fun k => match k with
  | 0 => .array .int
  | 1 => .int
  | 2 => .int
  | 3 => .int
  | 4 => .array .int
  | 5 => .array .int
  | 6 => .array .int
  | 7 => .int
  | _ => .int
abbrev wsX70 : List Cond := u_ws RX7 TX7 9
theorem nmX7 : ∀ a, a < 9 → ∀ b, b < 9 → a ≠ b → (TX7 a).2.1 ≠ (TX7 b).2.1 := by decide +kernel
theorem tyX7_ok : ∀ k, k < 9 → parseFieldDescriptor (TX7 k).2.2.1 = some (tyX7 k) := by decide +kernel
abbrev cX7_init : ByteArray := prog_9_method_1_code
def yX7_init : MethodName := ⟨RX7, "<init>", "()V"⟩
abbrev cX7_hasRoom : ByteArray := prog_9_method_2_code
def yX7_hasRoom : MethodName := ⟨RX7, "hasRoom", "(I)Z"⟩
abbrev cX7_addNumber : ByteArray := prog_9_method_3_code
def yX7_addNumber : MethodName := ⟨RX7, "addNumber", "(I)V"⟩
abbrev cX7_clearFault : ByteArray := prog_9_method_4_code
def yX7_clearFault : MethodName := ⟨RX7, "clearFault", "()V"⟩
abbrev cX7_refuse : ByteArray := prog_9_method_5_code
def yX7_refuse : MethodName := ⟨RX7, "refuse", "(I)Z"⟩
abbrev cX7_kind : ByteArray := prog_9_method_6_code
def yX7_kind : MethodName := ⟨RX7, "kind", "()I"⟩
abbrev cX7_skip : ByteArray := prog_9_method_7_code
def yX7_skip : MethodName := ⟨RX7, "skip", "()V"⟩
abbrev cX7_take : ByteArray := prog_9_method_8_code
def yX7_take : MethodName := ⟨RX7, "take", "(I)Z"⟩
abbrev cX7_isNumberWithin : ByteArray := prog_9_method_9_code
def yX7_isNumberWithin : MethodName := ⟨RX7, "isNumberWithin", "(II)Z"⟩
abbrev cX7_number : ByteArray := prog_9_method_10_code
def yX7_number : MethodName := ⟨RX7, "number", "()I"⟩
abbrev cX7_cutIntoTokens : ByteArray := prog_9_method_11_code
def yX7_cutIntoTokens : MethodName := ⟨RX7, "cutIntoTokens", "(I)V"⟩
abbrev cX7_addToken : ByteArray := prog_9_method_12_code
def yX7_addToken : MethodName := ⟨RX7, "addToken", "(I)V"⟩
abbrev cX7_sortOf : ByteArray := prog_9_method_13_code
def yX7_sortOf : MethodName := ⟨RX7, "sortOf", "(I)I"⟩
abbrev cX7_kindOf : ByteArray := prog_9_method_14_code
def yX7_kindOf : MethodName := ⟨RX7, "kindOf", "(ILjava/lang/String;)I"⟩
abbrev cX7_wordOf : ByteArray := prog_9_method_15_code
def yX7_wordOf : MethodName := ⟨RX7, "wordOf", "(ILjava/lang/String;)I"⟩
abbrev cX7_isSpelled : ByteArray := prog_9_method_16_code
def yX7_isSpelled : MethodName := ⟨RX7, "isSpelled", "(Ljava/lang/String;III)Z"⟩
def RX8 : String := "SungEvidence$Told"
def TX8 : u_T := fun k => match k with
  | 0 => ("SungEvidence$Told", "witnesses", "I", false)
  | 1 => ("SungEvidence$Told", "low", "[I", true)
  | 2 => ("SungEvidence$Told", "high", "[I", true)
  | 3 => ("SungEvidence$Told", "breath", "[I", true)
  | 4 => ("SungEvidence$Told", "claims", "[I", true)
  | 5 => ("SungEvidence$Told", "sound", "I", false)
  | 6 => ("SungEvidence$Told", "need", "I", false)
  | 7 => ("SungEvidence$Told", "flats", "I", false)
  | 8 => ("SungEvidence$Told", "heardNotes", "I", false)
  | 9 => ("SungEvidence$Told", "heardRow", "[I", true)
  | 10 => ("SungEvidence$Told", "motives", "LSungEvidence$Motives;", true)
  | 11 => ("SungEvidence$Told", "law", "LSungEvidence$Law;", true)
  | _ => ("SungEvidence$Told", "plan", "LSungEvidence$Plan;", true)
def tyX8 : Nat → FieldType := fun k => match k with
  | 0 => .int
  | 1 => .array .int
  | 2 => .array .int
  | 3 => .array .int
  | 4 => .array .int
  | 5 => .int
  | 6 => .int
  | 7 => .int
  | 8 => .int
  | 9 => .array .int
  | 10 => .object "SungEvidence$Motives"
  | 11 => .object "SungEvidence$Law"
  | _ => .object "SungEvidence$Plan"
abbrev wsX80 : List Cond := u_ws RX8 TX8 13
theorem nmX8 : ∀ a, a < 13 → ∀ b, b < 13 → a ≠ b → (TX8 a).2.1 ≠ (TX8 b).2.1 := by decide +kernel
theorem tyX8_ok : ∀ k, k < 13 → parseFieldDescriptor (TX8 k).2.2.1 = some (tyX8 k) := by decide +kernel
abbrev cX8_init : ByteArray := prog_10_method_1_code
def yX8_init : MethodName := ⟨RX8, "<init>", "()V"⟩
abbrev cX8_copyFrom : ByteArray := prog_10_method_2_code
def yX8_copyFrom : MethodName := ⟨RX8, "copyFrom", "(LSungEvidence$Told;)V"⟩
abbrev cX8_isWitness : ByteArray := prog_10_method_3_code
def yX8_isWitness : MethodName := ⟨RX8, "isWitness", "(I)Z"⟩
abbrev cX8_addWitness : ByteArray := prog_10_method_4_code
def yX8_addWitness : MethodName := ⟨RX8, "addWitness", "(III)I"⟩
abbrev cX8_claimOf : ByteArray := prog_10_method_5_code
def yX8_claimOf : MethodName := ⟨RX8, "claimOf", "(II)I"⟩
abbrev cX8_sounds : ByteArray := prog_10_method_6_code
def yX8_sounds : MethodName := ⟨RX8, "sounds", "(II)Z"⟩
abbrev cX8_barsSound : ByteArray := prog_10_method_7_code
def yX8_barsSound : MethodName := ⟨RX8, "barsSound", "(II)Z"⟩
def RX9 : String := "SungEvidence$Verdict"
def TX9 : u_T := fun k => match k with
  | 0 => ("SungEvidence$Verdict", "bench", "LSungEvidence$Bench;", true)
  | 1 => ("SungEvidence$Verdict", "told", "LSungEvidence$Told;", true)
  | 2 => ("SungEvidence$Verdict", "court", "LSungEvidence$Court;", true)
  | 3 => ("SungEvidence$Verdict", "weights", "[I", true)
  | 4 => ("SungEvidence$Verdict", "ofWitness", "[I", true)
  | 5 => ("SungEvidence$Verdict", "liars", "[I", true)
  | _ => ("SungEvidence$Verdict", "tallies", "[I", true)
def tyX9 : Nat → FieldType := fun k => match k with
  | 0 => .object "SungEvidence$Bench"
  | 1 => .object "SungEvidence$Told"
  | 2 => .object "SungEvidence$Court"
  | 3 => .array .int
  | 4 => .array .int
  | 5 => .array .int
  | _ => .array .int
abbrev wsX90 : List Cond := u_ws RX9 TX9 7
theorem nmX9 : ∀ a, a < 7 → ∀ b, b < 7 → a ≠ b → (TX9 a).2.1 ≠ (TX9 b).2.1 := by decide +kernel
theorem tyX9_ok : ∀ k, k < 7 → parseFieldDescriptor (TX9 k).2.2.1 = some (tyX9 k) := by decide +kernel
abbrev cX9_init : ByteArray := prog_11_method_1_code
def yX9_init : MethodName := ⟨RX9, "<init>", "(LSungEvidence$Bench;)V"⟩
abbrev cX9_weightFor : ByteArray := prog_11_method_2_code
def yX9_weightFor : MethodName := ⟨RX9, "weightFor", "(II)I"⟩
abbrev cX9_weighAll : ByteArray := prog_11_method_3_code
def yX9_weighAll : MethodName := ⟨RX9, "weighAll", "(I)V"⟩
abbrev cX9_finding : ByteArray := prog_11_method_4_code
def yX9_finding : MethodName := ⟨RX9, "finding", "(I)I"⟩
abbrev cX9_missingFor : ByteArray := prog_11_method_5_code
def yX9_missingFor : MethodName := ⟨RX9, "missingFor", "(I)I"⟩
abbrev cX9_fewestCallers : ByteArray := prog_11_method_6_code
def yX9_fewestCallers : MethodName := ⟨RX9, "fewestCallers", "(II)I"⟩
abbrev cX9_callable : ByteArray := prog_11_method_7_code
def yX9_callable : MethodName := ⟨RX9, "callable", "(II)I"⟩
abbrev cX9_sumOf : ByteArray := prog_11_method_8_code
def yX9_sumOf : MethodName := ⟨RX9, "sumOf", "(I)I"⟩
abbrev cX9_largestChoir : ByteArray := prog_11_method_9_code
def yX9_largestChoir : MethodName := ⟨RX9, "largestChoir", "()I"⟩
abbrev cX9_opponentsOf : ByteArray := prog_11_method_10_code
def yX9_opponentsOf : MethodName := ⟨RX9, "opponentsOf", "(I)I"⟩
abbrev cX9_areUnlike : ByteArray := prog_11_method_11_code
def yX9_areUnlike : MethodName := ⟨RX9, "areUnlike", "(II)Z"⟩
abbrev cX9_agree : ByteArray := prog_11_method_12_code
def yX9_agree : MethodName := ⟨RX9, "agree", "(I)Z"⟩
abbrev cX9_worldsWith : ByteArray := prog_11_method_13_code
def yX9_worldsWith : MethodName := ⟨RX9, "worldsWith", "(II)I"⟩
abbrev cX9_tellLiars : ByteArray := prog_11_method_14_code
def yX9_tellLiars : MethodName := ⟨RX9, "tellLiars", "()V"⟩
abbrev cX9_countWorlds : ByteArray := prog_11_method_15_code
def yX9_countWorlds : MethodName := ⟨RX9, "countWorlds", "(III)I"⟩
abbrev cX9_sureFacts : ByteArray := prog_11_method_16_code
def yX9_sureFacts : MethodName := ⟨RX9, "sureFacts", "(I)I"⟩
abbrev cX9_factToAsk : ByteArray := prog_11_method_17_code
def yX9_factToAsk : MethodName := ⟨RX9, "factToAsk", "(I)I"⟩
abbrev cX9_mostAlike : ByteArray := prog_11_method_18_code
def yX9_mostAlike : MethodName := ⟨RX9, "mostAlike", "(I)I"⟩
def RX10 : String := "SungEvidence$Voices"
def TX10 : u_T := fun k => match k with
  | 0 => ("SungEvidence$Voices", "bench", "LSungEvidence$Bench;", true)
  | 1 => ("SungEvidence$Voices", "told", "LSungEvidence$Told;", true)
  | 2 => ("SungEvidence$Voices", "court", "LSungEvidence$Court;", true)
  | 3 => ("SungEvidence$Voices", "chances", "[I", true)
  | _ => ("SungEvidence$Voices", "soundsWith", "[J", true)
def tyX10 : Nat → FieldType := fun k => match k with
  | 0 => .object "SungEvidence$Bench"
  | 1 => .object "SungEvidence$Told"
  | 2 => .object "SungEvidence$Court"
  | 3 => .array .int
  | _ => .array .long
abbrev wsX100 : List Cond := u_ws RX10 TX10 5
theorem nmX10 : ∀ a, a < 5 → ∀ b, b < 5 → a ≠ b → (TX10 a).2.1 ≠ (TX10 b).2.1 := by decide +kernel
theorem tyX10_ok : ∀ k, k < 5 → parseFieldDescriptor (TX10 k).2.2.1 = some (tyX10 k) := by decide +kernel
abbrev cX10_init : ByteArray := prog_12_method_1_code
def yX10_init : MethodName := ⟨RX10, "<init>", "(LSungEvidence$Bench;)V"⟩
abbrev cX10_likelyWithin : ByteArray := prog_12_method_2_code
def yX10_likelyWithin : MethodName := ⟨RX10, "likelyWithin", "(IIII)I"⟩
abbrev cX10_addChance : ByteArray := prog_12_method_3_code
def yX10_addChance : MethodName := ⟨RX10, "addChance", "(I)V"⟩
abbrev cX10_motivesHeard : ByteArray := prog_12_method_4_code
def yX10_motivesHeard : MethodName := ⟨RX10, "motivesHeard", "(II)I"⟩
abbrev cX10_fewestUnlike : ByteArray := prog_12_method_5_code
def yX10_fewestUnlike : MethodName := ⟨RX10, "fewestUnlike", "(I)I"⟩
abbrev cX10_unlikeFrom : ByteArray := prog_12_method_6_code
def yX10_unlikeFrom : MethodName := ⟨RX10, "unlikeFrom", "(II)I"⟩
abbrev cX10_soundingBars : ByteArray := prog_12_method_7_code
def yX10_soundingBars : MethodName := ⟨RX10, "soundingBars", "(II)I"⟩
abbrev cX10_soundingBehind : ByteArray := prog_12_method_8_code
def yX10_soundingBehind : MethodName := ⟨RX10, "soundingBehind", "(II)I"⟩
abbrev cX10_bestKey : ByteArray := prog_12_method_9_code
def yX10_bestKey : MethodName := ⟨RX10, "bestKey", "(IIII)I"⟩
abbrev cX10_soundingFrom : ByteArray := prog_12_method_10_code
def yX10_soundingFrom : MethodName := ⟨RX10, "soundingFrom", "(III)I"⟩
abbrev cX10_chordOf : ByteArray := prog_12_method_11_code
def yX10_chordOf : MethodName := ⟨RX10, "chordOf", "(IIIII)I"⟩
abbrev cX10_chosen : ByteArray := prog_12_method_12_code
def yX10_chosen : MethodName := ⟨RX10, "chosen", "(IIII)I"⟩
abbrev cX10_tellSounds : ByteArray := prog_12_method_13_code
def yX10_tellSounds : MethodName := ⟨RX10, "tellSounds", "()V"⟩
abbrev cX10_rangeOf : ByteArray := prog_12_method_14_code
def yX10_rangeOf : MethodName := ⟨RX10, "rangeOf", "(I)J"⟩
abbrev cX10_has : ByteArray := prog_12_method_15_code
def yX10_has : MethodName := ⟨RX10, "has", "(JI)Z"⟩
abbrev cX10_lowestOf : ByteArray := prog_12_method_16_code
def yX10_lowestOf : MethodName := ⟨RX10, "lowestOf", "(J)I"⟩
def RX11 : String := "SungEvidence"
def TX11 : u_T := fun k => match k with
  | 0 => ("SungEvidence", "tape", "LSungEvidence$Tape;", true)
  | 1 => ("SungEvidence", "told", "LSungEvidence$Told;", true)
  | 2 => ("SungEvidence", "court", "LSungEvidence$Court;", true)
  | 3 => ("SungEvidence", "bench", "LSungEvidence$Bench;", true)
  | 4 => ("SungEvidence", "deeds", "LSungEvidence$Deeds;", true)
  | 5 => ("SungEvidence", "voices", "LSungEvidence$Voices;", true)
  | 6 => ("SungEvidence", "verdict", "LSungEvidence$Verdict;", true)
  | 7 => ("SungEvidence", "draftMotives", "LSungEvidence$Motives;", true)
  | 8 => ("SungEvidence", "draftLaw", "LSungEvidence$Law;", true)
  | 9 => ("SungEvidence", "draftPlan", "LSungEvidence$Plan;", true)
  | 10 => ("SungEvidence", "lawReader", "LSungEvidence$LawReader;", true)
  | 11 => ("SungEvidence", "imageTold", "LSungEvidence$Told;", true)
  | 12 => ("SungEvidence", "imageCourt", "LSungEvidence$Court;", true)
  | 13 => ("SungEvidence", "imageTaken", "Z", false)
  | 14 => ("SungEvidence", "kept", "[LSungEvidence$Court;", true)
  | 15 => ("SungEvidence", "keptCount", "I", false)
  | _ => ("SungEvidence", "keptNext", "I", false)
def tyX11 : Nat → FieldType := fun k => match k with
  | 0 => .object "SungEvidence$Tape"
  | 1 => .object "SungEvidence$Told"
  | 2 => .object "SungEvidence$Court"
  | 3 => .object "SungEvidence$Bench"
  | 4 => .object "SungEvidence$Deeds"
  | 5 => .object "SungEvidence$Voices"
  | 6 => .object "SungEvidence$Verdict"
  | 7 => .object "SungEvidence$Motives"
  | 8 => .object "SungEvidence$Law"
  | 9 => .object "SungEvidence$Plan"
  | 10 => .object "SungEvidence$LawReader"
  | 11 => .object "SungEvidence$Told"
  | 12 => .object "SungEvidence$Court"
  | 13 => .boolean
  | 14 => .array (.object "SungEvidence$Court")
  | 15 => .int
  | _ => .int
abbrev wsX110 : List Cond := u_ws RX11 TX11 17
theorem nmX11 : ∀ a, a < 17 → ∀ b, b < 17 → a ≠ b → (TX11 a).2.1 ≠ (TX11 b).2.1 := by decide +kernel
theorem tyX11_ok : ∀ k, k < 17 → parseFieldDescriptor (TX11 k).2.2.1 = some (tyX11 k) := by decide +kernel
abbrev cX11_init : ByteArray := prog_1_method_1_code
def yX11_init : MethodName := ⟨RX11, "<init>", "()V"⟩
abbrev cX11_state : ByteArray := prog_1_method_2_code
def yX11_state : MethodName := ⟨RX11, "state", "(I)I"⟩
abbrev cX11_witness : ByteArray := prog_1_method_3_code
def yX11_witness : MethodName := ⟨RX11, "witness", "(III)I"⟩
abbrev cX11_claim : ByteArray := prog_1_method_4_code
def yX11_claim : MethodName := ⟨RX11, "claim", "(III)Z"⟩
abbrev cX11_set : ByteArray := prog_1_method_5_code
def yX11_set : MethodName := ⟨RX11, "set", "(III)Z"⟩
abbrev cX11_feed : ByteArray := prog_1_method_6_code
def yX11_feed : MethodName := ⟨RX11, "feed", "(IIIII)I"⟩
abbrev cX11_end : ByteArray := prog_1_method_7_code
def yX11_end : MethodName := ⟨RX11, "end", "(I)Z"⟩
abbrev cX11_text : ByteArray := prog_1_method_8_code
def yX11_text : MethodName := ⟨RX11, "text", "(I)I"⟩
abbrev cX11_fault : ByteArray := prog_1_method_9_code
def yX11_fault : MethodName := ⟨RX11, "fault", "(I)I"⟩
abbrev cX11_call : ByteArray := prog_1_method_10_code
def yX11_call : MethodName := ⟨RX11, "call", "(III)I"⟩
abbrev cX11_cross : ByteArray := prog_1_method_11_code
def yX11_cross : MethodName := ⟨RX11, "cross", "(I)I"⟩
abbrev cX11_strike : ByteArray := prog_1_method_12_code
def yX11_strike : MethodName := ⟨RX11, "strike", "(I)Z"⟩
abbrev cX11_days : ByteArray := prog_1_method_13_code
def yX11_days : MethodName := ⟨RX11, "days", "(I)I"⟩
abbrev cX11_trial : ByteArray := prog_1_method_14_code
def yX11_trial : MethodName := ⟨RX11, "trial", "()I"⟩
abbrev cX11_of : ByteArray := prog_1_method_15_code
def yX11_of : MethodName := ⟨RX11, "of", "(II)I"⟩
abbrev cX11_testimony : ByteArray := prog_1_method_16_code
def yX11_testimony : MethodName := ⟨RX11, "testimony", "(II)I"⟩
abbrev cX11_bar : ByteArray := prog_1_method_17_code
def yX11_bar : MethodName := ⟨RX11, "bar", "(I)I"⟩
abbrev cX11_motive : ByteArray := prog_1_method_18_code
def yX11_motive : MethodName := ⟨RX11, "motive", "(II)I"⟩
abbrev cX11_book : ByteArray := prog_1_method_19_code
def yX11_book : MethodName := ⟨RX11, "book", "(II)I"⟩
abbrev cX11_keys : ByteArray := prog_1_method_20_code
def yX11_keys : MethodName := ⟨RX11, "keys", "(III)I"⟩
abbrev cX11_fair : ByteArray := prog_1_method_21_code
def yX11_fair : MethodName := ⟨RX11, "fair", "(IIII)I"⟩
abbrev cX11_heard : ByteArray := prog_1_method_22_code
def yX11_heard : MethodName := ⟨RX11, "heard", "(I)I"⟩
abbrev cX11_read : ByteArray := prog_1_method_23_code
def yX11_read : MethodName := ⟨RX11, "read", "(II)I"⟩
abbrev cX11_duet : ByteArray := prog_1_method_24_code
def yX11_duet : MethodName := ⟨RX11, "duet", "(II)I"⟩
abbrev cX11_best : ByteArray := prog_1_method_25_code
def yX11_best : MethodName := ⟨RX11, "best", "(IIII)I"⟩
abbrev cX11_canon : ByteArray := prog_1_method_26_code
def yX11_canon : MethodName := ⟨RX11, "canon", "(II)I"⟩
abbrev cX11_weighed : ByteArray := prog_1_method_27_code
def yX11_weighed : MethodName := ⟨RX11, "weighed", "(II)I"⟩
abbrev cX11_found : ByteArray := prog_1_method_28_code
def yX11_found : MethodName := ⟨RX11, "found", "(I)I"⟩
abbrev cX11_calls : ByteArray := prog_1_method_29_code
def yX11_calls : MethodName := ⟨RX11, "calls", "(III)I"⟩
abbrev cX11_choir : ByteArray := prog_1_method_30_code
def yX11_choir : MethodName := ⟨RX11, "choir", "(I)I"⟩
abbrev cX11_worlds : ByteArray := prog_1_method_31_code
def yX11_worlds : MethodName := ⟨RX11, "worlds", "(II)I"⟩
abbrev cX11_chord : ByteArray := prog_1_method_32_code
def yX11_chord : MethodName := ⟨RX11, "chord", "(IIIIII)I"⟩
abbrev cX11_undo : ByteArray := prog_1_method_33_code
def yX11_undo : MethodName := ⟨RX11, "undo", "()Z"⟩
abbrev cX11_image : ByteArray := prog_1_method_34_code
def yX11_image : MethodName := ⟨RX11, "image", "(Z)Z"⟩
abbrev cX11_look : ByteArray := prog_1_method_35_code
def yX11_look : MethodName := ⟨RX11, "look", "(I)I"⟩
abbrev cX11_setOfBench : ByteArray := prog_1_method_36_code
def yX11_setOfBench : MethodName := ⟨RX11, "setOfBench", "(II)Z"⟩
abbrev cX11_setOfWitness : ByteArray := prog_1_method_37_code
def yX11_setOfWitness : MethodName := ⟨RX11, "setOfWitness", "(III)Z"⟩
abbrev cX11_adoptMotives : ByteArray := prog_1_method_38_code
def yX11_adoptMotives : MethodName := ⟨RX11, "adoptMotives", "()I"⟩
abbrev cX11_adoptLaw : ByteArray := prog_1_method_39_code
def yX11_adoptLaw : MethodName := ⟨RX11, "adoptLaw", "()I"⟩
abbrev cX11_adoptPlan : ByteArray := prog_1_method_40_code
def yX11_adoptPlan : MethodName := ⟨RX11, "adoptPlan", "()I"⟩
abbrev cX11_keepCourt : ByteArray := prog_1_method_41_code
def yX11_keepCourt : MethodName := ⟨RX11, "keepCourt", "()V"⟩
abbrev cX11_forgetDeeds : ByteArray := prog_1_method_42_code
def yX11_forgetDeeds : MethodName := ⟨RX11, "forgetDeeds", "()V"⟩
abbrev cX11_isWithin : ByteArray := prog_1_method_43_code
def yX11_isWithin : MethodName := ⟨RX11, "isWithin", "(III)Z"⟩
abbrev cX11_isNote : ByteArray := prog_1_method_44_code
def yX11_isNote : MethodName := ⟨RX11, "isNote", "(I)Z"⟩
abbrev cX11_isFact : ByteArray := prog_1_method_45_code
def yX11_isFact : MethodName := ⟨RX11, "isFact", "(I)Z"⟩
abbrev cX11_isValue : ByteArray := prog_1_method_46_code
def yX11_isValue : MethodName := ⟨RX11, "isValue", "(I)Z"⟩
abbrev cX11_held : ByteArray := prog_1_method_47_code
def yX11_held : MethodName := ⟨RX11, "held", "(II)I"⟩
def RX12 : String := "SungEvidenceModel"
def TX12 : u_T := fun k => match k with
  | 0 => ("SungEvidenceModel", "told", "I", false)
  | 1 => ("SungEvidenceModel", "now", "[I", true)
  | 2 => ("SungEvidenceModel", "rows", "[I", true)
  | 3 => ("SungEvidenceModel", "undoable", "I", false)
  | 4 => ("SungEvidenceModel", "witnesses", "I", false)
  | 5 => ("SungEvidenceModel", "low", "[I", true)
  | 6 => ("SungEvidenceModel", "high", "[I", true)
  | 7 => ("SungEvidenceModel", "breath", "[I", true)
  | 8 => ("SungEvidenceModel", "claims", "[I", true)
  | 9 => ("SungEvidenceModel", "soundBut", "I", false)
  | 10 => ("SungEvidenceModel", "needBut", "I", false)
  | 11 => ("SungEvidenceModel", "flatsBut", "I", false)
  | 12 => ("SungEvidenceModel", "tape", "[I", true)
  | 13 => ("SungEvidenceModel", "taped", "I", false)
  | 14 => ("SungEvidenceModel", "spot", "I", false)
  | 15 => ("SungEvidenceModel", "from", "I", false)
  | 16 => ("SungEvidenceModel", "token", "I", false)
  | 17 => ("SungEvidenceModel", "value", "I", false)
  | 18 => ("SungEvidenceModel", "words", "[I", true)
  | 19 => ("SungEvidenceModel", "lineMany", "[I", true)
  | 20 => ("SungEvidenceModel", "lineWord", "[I", true)
  | 21 => ("SungEvidenceModel", "lineFrom", "[I", true)
  | 22 => ("SungEvidenceModel", "lineWhen", "[I", true)
  | 23 => ("SungEvidenceModel", "lineTo", "[I", true)
  | 24 => ("SungEvidenceModel", "op", "[I", true)
  | 25 => ("SungEvidenceModel", "arg", "[I", true)
  | 26 => ("SungEvidenceModel", "which", "I", false)
  | 27 => ("SungEvidenceModel", "codes", "I", false)
  | 28 => ("SungEvidenceModel", "open", "I", false)
  | 29 => ("SungEvidenceModel", "pending", "[I", true)
  | 30 => ("SungEvidenceModel", "pendings", "I", false)
  | 31 => ("SungEvidenceModel", "readFault", "I", false)
  | 32 => ("SungEvidenceModel", "readPlace", "I", false)
  | 33 => ("SungEvidenceModel", "faultKind", "I", false)
  | 34 => ("SungEvidenceModel", "faultPlace", "I", false)
  | 35 => ("SungEvidenceModel", "motiveLines", "I", false)
  | 36 => ("SungEvidenceModel", "motives", "[I", true)
  | 37 => ("SungEvidenceModel", "steps", "[I", true)
  | 38 => ("SungEvidenceModel", "stepMany", "I", false)
  | 39 => ("SungEvidenceModel", "deedMany", "I", false)
  | 40 => ("SungEvidenceModel", "deeds", "[I", true)
  | 41 => ("SungEvidenceModel", "backTo", "[I", true)
  | 42 => ("SungEvidenceModel", "timesLeft", "[I", true)
  | 43 => ("SungEvidenceModel", "asked", "[I", true)
  | 44 => ("SungEvidenceModel", "stack", "[I", true)
  | 45 => ("SungEvidenceModel", "testimonies", "[I", true)
  | 46 => ("SungEvidenceModel", "record", "[I", true)
  | 47 => ("SungEvidenceModel", "book", "[I", true)
  | 48 => ("SungEvidenceModel", "keyMany", "I", false)
  | 49 => ("SungEvidenceModel", "lowestKey", "I", false)
  | 50 => ("SungEvidenceModel", "highestKey", "I", false)
  | 51 => ("SungEvidenceModel", "chances", "[I", true)
  | 52 => ("SungEvidenceModel", "heardMany", "I", false)
  | 53 => ("SungEvidenceModel", "heardNotes", "[I", true)
  | 54 => ("SungEvidenceModel", "inWorlds", "[I", true)
  | 55 => ("SungEvidenceModel", "isTaking", "Z", false)
  | 56 => ("SungEvidenceModel", "hasImage", "Z", false)
  | 57 => ("SungEvidenceModel", "keptAt", "I", false)
  | _ => ("SungEvidenceModel", "images", "[I", true)
def tyX12 : Nat → FieldType := fun k => match k with
  | 0 => .int
  | 1 => .array .int
  | 2 => .array .int
  | 3 => .int
  | 4 => .int
  | 5 => .array .int
  | 6 => .array .int
  | 7 => .array .int
  | 8 => .array .int
  | 9 => .int
  | 10 => .int
  | 11 => .int
  | 12 => .array .int
  | 13 => .int
  | 14 => .int
  | 15 => .int
  | 16 => .int
  | 17 => .int
  | 18 => .array .int
  | 19 => .array .int
  | 20 => .array .int
  | 21 => .array .int
  | 22 => .array .int
  | 23 => .array .int
  | 24 => .array .int
  | 25 => .array .int
  | 26 => .int
  | 27 => .int
  | 28 => .int
  | 29 => .array .int
  | 30 => .int
  | 31 => .int
  | 32 => .int
  | 33 => .int
  | 34 => .int
  | 35 => .int
  | 36 => .array .int
  | 37 => .array .int
  | 38 => .int
  | 39 => .int
  | 40 => .array .int
  | 41 => .array .int
  | 42 => .array .int
  | 43 => .array .int
  | 44 => .array .int
  | 45 => .array .int
  | 46 => .array .int
  | 47 => .array .int
  | 48 => .int
  | 49 => .int
  | 50 => .int
  | 51 => .array .int
  | 52 => .int
  | 53 => .array .int
  | 54 => .array .int
  | 55 => .boolean
  | 56 => .boolean
  | 57 => .int
  | _ => .array .int
abbrev wsX120 : List Cond := u_ws RX12 TX12 59
theorem nmX12 : ∀ a, a < 59 → ∀ b, b < 59 → a ≠ b → (TX12 a).2.1 ≠ (TX12 b).2.1 := by decide +kernel
theorem tyX12_ok : ∀ k, k < 59 → parseFieldDescriptor (TX12 k).2.2.1 = some (tyX12 k) := by decide +kernel
abbrev cX12_init : ByteArray := prog_14_method_1_code
def yX12_init : MethodName := ⟨RX12, "<init>", "()V"⟩
abbrev cX12_isIn : ByteArray := prog_14_method_3_code
def yX12_isIn : MethodName := ⟨RX12, "isIn", "(III)Z"⟩
abbrev cX12_held : ByteArray := prog_14_method_4_code
def yX12_held : MethodName := ⟨RX12, "held", "(III)I"⟩
abbrev cX12_greater : ByteArray := prog_14_method_5_code
def yX12_greater : MethodName := ⟨RX12, "greater", "(II)I"⟩
abbrev cX12_lesser : ByteArray := prog_14_method_6_code
def yX12_lesser : MethodName := ⟨RX12, "lesser", "(II)I"⟩
abbrev cX12_far : ByteArray := prog_14_method_7_code
def yX12_far : MethodName := ⟨RX12, "far", "(II)I"⟩
abbrev cX12_onesOf : ByteArray := prog_14_method_8_code
def yX12_onesOf : MethodName := ⟨RX12, "onesOf", "(I)I"⟩
abbrev cX12_keepsAhead : ByteArray := prog_14_method_9_code
def yX12_keepsAhead : MethodName := ⟨RX12, "keepsAhead", "()V"⟩
abbrev cX12_undo : ByteArray := prog_14_method_10_code
def yX12_undo : MethodName := ⟨RX12, "undo", "()Z"⟩
abbrev cX12_state : ByteArray := prog_14_method_11_code
def yX12_state : MethodName := ⟨RX12, "state", "(I)I"⟩
abbrev cX12_draw : ByteArray := prog_14_method_12_code
def yX12_draw : MethodName := ⟨RX12, "draw", "(I)I"⟩
abbrev cX12_soundNow : ByteArray := prog_14_method_13_code
def yX12_soundNow : MethodName := ⟨RX12, "soundNow", "()I"⟩
abbrev cX12_needNow : ByteArray := prog_14_method_14_code
def yX12_needNow : MethodName := ⟨RX12, "needNow", "()I"⟩
abbrev cX12_flatsNow : ByteArray := prog_14_method_15_code
def yX12_flatsNow : MethodName := ⟨RX12, "flatsNow", "()I"⟩
abbrev cX12_isWitness : ByteArray := prog_14_method_16_code
def yX12_isWitness : MethodName := ⟨RX12, "isWitness", "(I)Z"⟩
abbrev cX12_isFact : ByteArray := prog_14_method_17_code
def yX12_isFact : MethodName := ⟨RX12, "isFact", "(I)Z"⟩
abbrev cX12_nerveOf : ByteArray := prog_14_method_18_code
def yX12_nerveOf : MethodName := ⟨RX12, "nerveOf", "(I)I"⟩
abbrev cX12_nerveBe : ByteArray := prog_14_method_19_code
def yX12_nerveBe : MethodName := ⟨RX12, "nerveBe", "(II)V"⟩
abbrev cX12_claimOf : ByteArray := prog_14_method_20_code
def yX12_claimOf : MethodName := ⟨RX12, "claimOf", "(II)I"⟩
abbrev cX12_witness : ByteArray := prog_14_method_21_code
def yX12_witness : MethodName := ⟨RX12, "witness", "(III)I"⟩
abbrev cX12_claim : ByteArray := prog_14_method_22_code
def yX12_claim : MethodName := ⟨RX12, "claim", "(III)Z"⟩
abbrev cX12_canSet : ByteArray := prog_14_method_23_code
def yX12_canSet : MethodName := ⟨RX12, "canSet", "(III)Z"⟩
abbrev cX12_set : ByteArray := prog_14_method_24_code
def yX12_set : MethodName := ⟨RX12, "set", "(III)Z"⟩
abbrev cX12_types : ByteArray := prog_14_method_25_code
def yX12_types : MethodName := ⟨RX12, "types", "(I)V"⟩
abbrev cX12_feed : ByteArray := prog_14_method_26_code
def yX12_feed : MethodName := ⟨RX12, "feed", "(IIIII)I"⟩
abbrev cX12_end : ByteArray := prog_14_method_27_code
def yX12_end : MethodName := ⟨RX12, "end", "(I)Z"⟩
abbrev cX12_raw : ByteArray := prog_14_method_28_code
def yX12_raw : MethodName := ⟨RX12, "raw", "(I)I"⟩
abbrev cX12_isLetter : ByteArray := prog_14_method_29_code
def yX12_isLetter : MethodName := ⟨RX12, "isLetter", "(I)Z"⟩
abbrev cX12_isDigit : ByteArray := prog_14_method_30_code
def yX12_isDigit : MethodName := ⟨RX12, "isDigit", "(I)Z"⟩
abbrev cX12_isMarkSign : ByteArray := prog_14_method_31_code
def yX12_isMarkSign : MethodName := ⟨RX12, "isMarkSign", "(I)Z"⟩
abbrev cX12_wordAt : ByteArray := prog_14_method_32_code
def yX12_wordAt : MethodName := ⟨RX12, "wordAt", "(II)I"⟩
abbrev cX12_reads : ByteArray := prog_14_method_33_code
def yX12_reads : MethodName := ⟨RX12, "reads", "()V"⟩
abbrev cX12_errs : ByteArray := prog_14_method_34_code
def yX12_errs : MethodName := ⟨RX12, "errs", "(I)I"⟩
abbrev cX12_isWord : ByteArray := prog_14_method_35_code
def yX12_isWord : MethodName := ⟨RX12, "isWord", "(I)Z"⟩
abbrev cX12_isSign : ByteArray := prog_14_method_36_code
def yX12_isSign : MethodName := ⟨RX12, "isSign", "(I)Z"⟩
abbrev cX12_emits : ByteArray := prog_14_method_37_code
def yX12_emits : MethodName := ⟨RX12, "emits", "(II)V"⟩
abbrev cX12_canAsk : ByteArray := prog_14_method_38_code
def yX12_canAsk : MethodName := ⟨RX12, "canAsk", "(I)Z"⟩
abbrev cX12_readUnit : ByteArray := prog_14_method_39_code
def yX12_readUnit : MethodName := ⟨RX12, "readUnit", "()I"⟩
abbrev cX12_readProduct : ByteArray := prog_14_method_40_code
def yX12_readProduct : MethodName := ⟨RX12, "readProduct", "()I"⟩
abbrev cX12_readSum : ByteArray := prog_14_method_41_code
def yX12_readSum : MethodName := ⟨RX12, "readSum", "()I"⟩
abbrev cX12_readCompared : ByteArray := prog_14_method_42_code
def yX12_readCompared : MethodName := ⟨RX12, "readCompared", "()I"⟩
abbrev cX12_waits : ByteArray := prog_14_method_43_code
def yX12_waits : MethodName := ⟨RX12, "waits", "(I)V"⟩
abbrev cX12_settles : ByteArray := prog_14_method_44_code
def yX12_settles : MethodName := ⟨RX12, "settles", "(I)V"⟩
abbrev cX12_readAny : ByteArray := prog_14_method_45_code
def yX12_readAny : MethodName := ⟨RX12, "readAny", "()I"⟩
abbrev cX12_isLineWord : ByteArray := prog_14_method_46_code
def yX12_isLineWord : MethodName := ⟨RX12, "isLineWord", "()Z"⟩
abbrev cX12_readLaw : ByteArray := prog_14_method_47_code
def yX12_readLaw : MethodName := ⟨RX12, "readLaw", "()I"⟩
abbrev cX12_takesLaw : ByteArray := prog_14_method_48_code
def yX12_takesLaw : MethodName := ⟨RX12, "takesLaw", "(I)V"⟩
abbrev cX12_readNumber : ByteArray := prog_14_method_49_code
def yX12_readNumber : MethodName := ⟨RX12, "readNumber", "(II)I"⟩
abbrev cX12_readMark : ByteArray := prog_14_method_50_code
def yX12_readMark : MethodName := ⟨RX12, "readMark", "(I)I"⟩
abbrev cX12_readTold : ByteArray := prog_14_method_51_code
def yX12_readTold : MethodName := ⟨RX12, "readTold", "(III)I"⟩
abbrev cX12_readStep : ByteArray := prog_14_method_52_code
def yX12_readStep : MethodName := ⟨RX12, "readStep", "(I)I"⟩
abbrev cX12_readMotive : ByteArray := prog_14_method_53_code
def yX12_readMotive : MethodName := ⟨RX12, "readMotive", "()I"⟩
abbrev cX12_readMotives : ByteArray := prog_14_method_54_code
def yX12_readMotives : MethodName := ⟨RX12, "readMotives", "()I"⟩
abbrev cX12_emitsStep : ByteArray := prog_14_method_55_code
def yX12_emitsStep : MethodName := ⟨RX12, "emitsStep", "(IIII)V"⟩
abbrev cX12_readCall : ByteArray := prog_14_method_56_code
def yX12_readCall : MethodName := ⟨RX12, "readCall", "()I"⟩
abbrev cX12_readCross : ByteArray := prog_14_method_57_code
def yX12_readCross : MethodName := ⟨RX12, "readCross", "()I"⟩
abbrev cX12_readAgain : ByteArray := prog_14_method_58_code
def yX12_readAgain : MethodName := ⟨RX12, "readAgain", "()I"⟩
abbrev cX12_readOther : ByteArray := prog_14_method_59_code
def yX12_readOther : MethodName := ⟨RX12, "readOther", "()I"⟩
abbrev cX12_readSteps : ByteArray := prog_14_method_60_code
def yX12_readSteps : MethodName := ⟨RX12, "readSteps", "()I"⟩
abbrev cX12_laysDeeds : ByteArray := prog_14_method_61_code
def yX12_laysDeeds : MethodName := ⟨RX12, "laysDeeds", "()I"⟩
abbrev cX12_readsText : ByteArray := prog_14_method_62_code
def yX12_readsText : MethodName := ⟨RX12, "readsText", "(I)I"⟩
abbrev cX12_takesOther : ByteArray := prog_14_method_63_code
def yX12_takesOther : MethodName := ⟨RX12, "takesOther", "(II)V"⟩
abbrev cX12_text : ByteArray := prog_14_method_64_code
def yX12_text : MethodName := ⟨RX12, "text", "(I)I"⟩
abbrev cX12_fault : ByteArray := prog_14_method_65_code
def yX12_fault : MethodName := ⟨RX12, "fault", "(I)I"⟩
abbrev cX12_twoOf : ByteArray := prog_14_method_66_code
def yX12_twoOf : MethodName := ⟨RX12, "twoOf", "(III)I"⟩
abbrev cX12_runs : ByteArray := prog_14_method_67_code
def yX12_runs : MethodName := ⟨RX12, "runs", "(III)I"⟩
abbrev cX12_lineOf : ByteArray := prog_14_method_68_code
def yX12_lineOf : MethodName := ⟨RX12, "lineOf", "(I)I"⟩
abbrev cX12_ofTestimony : ByteArray := prog_14_method_69_code
def yX12_ofTestimony : MethodName := ⟨RX12, "ofTestimony", "(II)I"⟩
abbrev cX12_isTestimony : ByteArray := prog_14_method_70_code
def yX12_isTestimony : MethodName := ⟨RX12, "isTestimony", "(I)Z"⟩
abbrev cX12_isStruck : ByteArray := prog_14_method_71_code
def yX12_isStruck : MethodName := ⟨RX12, "isStruck", "(I)Z"⟩
abbrev cX12_sungBy : ByteArray := prog_14_method_72_code
def yX12_sungBy : MethodName := ⟨RX12, "sungBy", "(I)I"⟩
abbrev cX12_notes : ByteArray := prog_14_method_73_code
def yX12_notes : MethodName := ⟨RX12, "notes", "(IIII)V"⟩
abbrev cX12_asks : ByteArray := prog_14_method_74_code
def yX12_asks : MethodName := ⟨RX12, "asks", "(IIII)V"⟩
abbrev cX12_lawTells : ByteArray := prog_14_method_75_code
def yX12_lawTells : MethodName := ⟨RX12, "lawTells", "(III)I"⟩
abbrev cX12_slipOf : ByteArray := prog_14_method_76_code
def yX12_slipOf : MethodName := ⟨RX12, "slipOf", "(IIIII)I"⟩
abbrev cX12_shakeOf : ByteArray := prog_14_method_77_code
def yX12_shakeOf : MethodName := ⟨RX12, "shakeOf", "(III)I"⟩
abbrev cX12_weighOf : ByteArray := prog_14_method_78_code
def yX12_weighOf : MethodName := ⟨RX12, "weighOf", "(IIII)I"⟩
abbrev cX12_notesOf : ByteArray := prog_14_method_79_code
def yX12_notesOf : MethodName := ⟨RX12, "notesOf", "(I)I"⟩
abbrev cX12_stepOf : ByteArray := prog_14_method_80_code
def yX12_stepOf : MethodName := ⟨RX12, "stepOf", "(II)I"⟩
abbrev cX12_aboveOf : ByteArray := prog_14_method_81_code
def yX12_aboveOf : MethodName := ⟨RX12, "aboveOf", "(II)I"⟩
abbrev cX12_canSing : ByteArray := prog_14_method_82_code
def yX12_canSing : MethodName := ⟨RX12, "canSing", "(IIII)Z"⟩
abbrev cX12_motiveOf : ByteArray := prog_14_method_83_code
def yX12_motiveOf : MethodName := ⟨RX12, "motiveOf", "(II)I"⟩
abbrev cX12_isSung : ByteArray := prog_14_method_84_code
def yX12_isSung : MethodName := ⟨RX12, "isSung", "(III)Z"⟩
abbrev cX12_barsFor : ByteArray := prog_14_method_85_code
def yX12_barsFor : MethodName := ⟨RX12, "barsFor", "(II)I"⟩
abbrev cX12_canCall : ByteArray := prog_14_method_86_code
def yX12_canCall : MethodName := ⟨RX12, "canCall", "(III)Z"⟩
abbrev cX12_bars : ByteArray := prog_14_method_87_code
def yX12_bars : MethodName := ⟨RX12, "bars", "(I)V"⟩
abbrev cX12_sings : ByteArray := prog_14_method_88_code
def yX12_sings : MethodName := ⟨RX12, "sings", "(III)I"⟩
abbrev cX12_crosses : ByteArray := prog_14_method_89_code
def yX12_crosses : MethodName := ⟨RX12, "crosses", "(I)I"⟩
abbrev cX12_hoarseMany : ByteArray := prog_14_method_90_code
def yX12_hoarseMany : MethodName := ⟨RX12, "hoarseMany", "()I"⟩
abbrev cX12_restsDay : ByteArray := prog_14_method_91_code
def yX12_restsDay : MethodName := ⟨RX12, "restsDay", "()V"⟩
abbrev cX12_call : ByteArray := prog_14_method_92_code
def yX12_call : MethodName := ⟨RX12, "call", "(III)I"⟩
abbrev cX12_cross : ByteArray := prog_14_method_93_code
def yX12_cross : MethodName := ⟨RX12, "cross", "(I)I"⟩
abbrev cX12_strike : ByteArray := prog_14_method_94_code
def yX12_strike : MethodName := ⟨RX12, "strike", "(I)Z"⟩
abbrev cX12_days : ByteArray := prog_14_method_95_code
def yX12_days : MethodName := ⟨RX12, "days", "(I)I"⟩
abbrev cX12_ofDeed : ByteArray := prog_14_method_96_code
def yX12_ofDeed : MethodName := ⟨RX12, "ofDeed", "(II)I"⟩
abbrev cX12_restsOfTrial : ByteArray := prog_14_method_97_code
def yX12_restsOfTrial : MethodName := ⟨RX12, "restsOfTrial", "()I"⟩
abbrev cX12_isDone : ByteArray := prog_14_method_98_code
def yX12_isDone : MethodName := ⟨RX12, "isDone", "(I)Z"⟩
abbrev cX12_trial : ByteArray := prog_14_method_99_code
def yX12_trial : MethodName := ⟨RX12, "trial", "()I"⟩
abbrev cX12_of : ByteArray := prog_14_method_100_code
def yX12_of : MethodName := ⟨RX12, "of", "(II)I"⟩
abbrev cX12_testimony : ByteArray := prog_14_method_101_code
def yX12_testimony : MethodName := ⟨RX12, "testimony", "(II)I"⟩
abbrev cX12_bar : ByteArray := prog_14_method_102_code
def yX12_bar : MethodName := ⟨RX12, "bar", "(I)I"⟩
abbrev cX12_motive : ByteArray := prog_14_method_103_code
def yX12_motive : MethodName := ⟨RX12, "motive", "(II)I"⟩
abbrev cX12_book : ByteArray := prog_14_method_104_code
def yX12_book : MethodName := ⟨RX12, "book", "(II)I"⟩
abbrev cX12_findsKeys : ByteArray := prog_14_method_105_code
def yX12_findsKeys : MethodName := ⟨RX12, "findsKeys", "(II)V"⟩
abbrev cX12_keys : ByteArray := prog_14_method_106_code
def yX12_keys : MethodName := ⟨RX12, "keys", "(III)I"⟩
abbrev cX12_fair : ByteArray := prog_14_method_107_code
def yX12_fair : MethodName := ⟨RX12, "fair", "(IIII)I"⟩
abbrev cX12_heard : ByteArray := prog_14_method_108_code
def yX12_heard : MethodName := ⟨RX12, "heard", "(I)I"⟩
abbrev cX12_unlikeTo : ByteArray := prog_14_method_109_code
def yX12_unlikeTo : MethodName := ⟨RX12, "unlikeTo", "(I)I"⟩
abbrev cX12_read : ByteArray := prog_14_method_110_code
def yX12_read : MethodName := ⟨RX12, "read", "(II)I"⟩
abbrev cX12_doSound : ByteArray := prog_14_method_111_code
def yX12_doSound : MethodName := ⟨RX12, "doSound", "(II)Z"⟩
abbrev cX12_duet : ByteArray := prog_14_method_112_code
def yX12_duet : MethodName := ⟨RX12, "duet", "(II)I"⟩
abbrev cX12_soundsWith : ByteArray := prog_14_method_113_code
def yX12_soundsWith : MethodName := ⟨RX12, "soundsWith", "(III)I"⟩
abbrev cX12_best : ByteArray := prog_14_method_114_code
def yX12_best : MethodName := ⟨RX12, "best", "(IIII)I"⟩
abbrev cX12_canon : ByteArray := prog_14_method_115_code
def yX12_canon : MethodName := ⟨RX12, "canon", "(II)I"⟩
abbrev cX12_weighedFor : ByteArray := prog_14_method_116_code
def yX12_weighedFor : MethodName := ⟨RX12, "weighedFor", "(II)I"⟩
abbrev cX12_isFoundWith : ByteArray := prog_14_method_117_code
def yX12_isFoundWith : MethodName := ⟨RX12, "isFoundWith", "(III)Z"⟩
abbrev cX12_weighed : ByteArray := prog_14_method_118_code
def yX12_weighed : MethodName := ⟨RX12, "weighed", "(II)I"⟩
abbrev cX12_found : ByteArray := prog_14_method_119_code
def yX12_found : MethodName := ⟨RX12, "found", "(I)I"⟩
abbrev cX12_singersFor : ByteArray := prog_14_method_120_code
def yX12_singersFor : MethodName := ⟨RX12, "singersFor", "(II)I"⟩
abbrev cX12_calls : ByteArray := prog_14_method_121_code
def yX12_calls : MethodName := ⟨RX12, "calls", "(III)I"⟩
abbrev cX12_doAgree : ByteArray := prog_14_method_122_code
def yX12_doAgree : MethodName := ⟨RX12, "doAgree", "(II)Z"⟩
abbrev cX12_isChoir : ByteArray := prog_14_method_123_code
def yX12_isChoir : MethodName := ⟨RX12, "isChoir", "(I)Z"⟩
abbrev cX12_choir : ByteArray := prog_14_method_124_code
def yX12_choir : MethodName := ⟨RX12, "choir", "(I)I"⟩
abbrev cX12_valueIn : ByteArray := prog_14_method_125_code
def yX12_valueIn : MethodName := ⟨RX12, "valueIn", "(II)I"⟩
abbrev cX12_liarsIn : ByteArray := prog_14_method_126_code
def yX12_liarsIn : MethodName := ⟨RX12, "liarsIn", "(I)I"⟩
abbrev cX12_findsWorlds : ByteArray := prog_14_method_127_code
def yX12_findsWorlds : MethodName := ⟨RX12, "findsWorlds", "(I)I"⟩
abbrev cX12_mostIn : ByteArray := prog_14_method_128_code
def yX12_mostIn : MethodName := ⟨RX12, "mostIn", "(I)I"⟩
abbrev cX12_worlds : ByteArray := prog_14_method_129_code
def yX12_worlds : MethodName := ⟨RX12, "worlds", "(II)I"⟩
abbrev cX12_isUnlike : ByteArray := prog_14_method_130_code
def yX12_isUnlike : MethodName := ⟨RX12, "isUnlike", "(IIII)Z"⟩
abbrev cX12_areWitnesses : ByteArray := prog_14_method_131_code
def yX12_areWitnesses : MethodName := ⟨RX12, "areWitnesses", "(IIII)Z"⟩
abbrev cX12_chord : ByteArray := prog_14_method_132_code
def yX12_chord : MethodName := ⟨RX12, "chord", "(IIIIII)I"⟩
abbrev cX12_keeps : ByteArray := prog_14_method_133_code
def yX12_keeps : MethodName := ⟨RX12, "keeps", "(I)I"⟩
abbrev cX12_keepsLaw : ByteArray := prog_14_method_134_code
def yX12_keepsLaw : MethodName := ⟨RX12, "keepsLaw", "()V"⟩
abbrev cX12_keepsTold : ByteArray := prog_14_method_135_code
def yX12_keepsTold : MethodName := ⟨RX12, "keepsTold", "()V"⟩
abbrev cX12_image : ByteArray := prog_14_method_136_code
def yX12_image : MethodName := ⟨RX12, "image", "(Z)Z"⟩
abbrev cX12_look : ByteArray := prog_14_method_137_code
def yX12_look : MethodName := ⟨RX12, "look", "(I)I"⟩
def RJ6 : String := "java/lang/Integer"
def TJ6 : u_T := fun k => match k with
  | _ => ("", "", "", false)
def tyJ6 : Nat → FieldType := fun k => match k with
  | _ => .int
abbrev wsJ60 : List Cond := u_ws RJ6 TJ6 0
theorem nmJ6 : ∀ a, a < 0 → ∀ b, b < 0 → a ≠ b → (TJ6 a).2.1 ≠ (TJ6 b).2.1 := by decide +kernel
theorem tyJ6_ok : ∀ k, k < 0 → parseFieldDescriptor (TJ6 k).2.2.1 = some (tyJ6 k) := by decide +kernel
abbrev cJ6_bitCount_0f7a4 : ByteArray := prog_15_method_49_code
def yJ6_bitCount_0f7a4 : MethodName := ⟨RJ6, "bitCount", "(I)I"⟩
def RJ13 : String := "java/lang/Long"
def TJ13 : u_T := fun k => match k with
  | _ => ("", "", "", false)
def tyJ13 : Nat → FieldType := fun k => match k with
  | _ => .int
abbrev wsJ130 : List Cond := u_ws RJ13 TJ13 0
theorem nmJ13 : ∀ a, a < 0 → ∀ b, b < 0 → a ≠ b → (TJ13 a).2.1 ≠ (TJ13 b).2.1 := by decide +kernel
theorem tyJ13_ok : ∀ k, k < 0 → parseFieldDescriptor (TJ13 k).2.2.1 = some (tyJ13 k) := by decide +kernel
abbrev cJ13_bitCount_95d88 : ByteArray := prog_16_method_50_code
def yJ13_bitCount_95d88 : MethodName := ⟨RJ13, "bitCount", "(J)I"⟩
def RJ9 : String := "java/lang/Math"
def TJ9 : u_T := fun k => match k with
  | _ => ("", "", "", false)
def tyJ9 : Nat → FieldType := fun k => match k with
  | _ => .int
abbrev wsJ90 : List Cond := u_ws RJ9 TJ9 0
theorem nmJ9 : ∀ a, a < 0 → ∀ b, b < 0 → a ≠ b → (TJ9 a).2.1 ≠ (TJ9 b).2.1 := by decide +kernel
theorem tyJ9_ok : ∀ k, k < 0 → parseFieldDescriptor (TJ9 k).2.2.1 = some (tyJ9 k) := by decide +kernel
abbrev cJ9_abs_0f7a4 : ByteArray := prog_17_method_59_code
def yJ9_abs_0f7a4 : MethodName := ⟨RJ9, "abs", "(I)I"⟩
abbrev cJ9_max_7cf53 : ByteArray := prog_17_method_65_code
def yJ9_max_7cf53 : MethodName := ⟨RJ9, "max", "(II)I"⟩
abbrev cJ9_min_7cf53 : ByteArray := prog_17_method_69_code
def yJ9_min_7cf53 : MethodName := ⟨RJ9, "min", "(II)I"⟩
def RJ0 : String := "java/lang/String"
def TJ0 : u_T := fun k => match k with
  | _ => ("", "", "", false)
def tyJ0 : Nat → FieldType := fun k => match k with
  | _ => .int
abbrev wsJ00 : List Cond := u_ws RJ0 TJ0 0
theorem nmJ0 : ∀ a, a < 0 → ∀ b, b < 0 → a ≠ b → (TJ0 a).2.1 ≠ (TJ0 b).2.1 := by decide +kernel
theorem tyJ0_ok : ∀ k, k < 0 → parseFieldDescriptor (TJ0 k).2.2.1 = some (tyJ0 k) := by decide +kernel
abbrev cJ0_length_8abf5 : ByteArray := prog_18_method_54_code
def yJ0_length_8abf5 : MethodName := ⟨RJ0, "length", "()I"⟩
abbrev cJ0_charAt_5068e : ByteArray := prog_18_method_56_code
def yJ0_charAt_5068e : MethodName := ⟨RJ0, "charAt", "(I)C"⟩
abbrev cJ0_coder_7d493 : ByteArray := prog_18_method_152_code
def yJ0_coder_7d493 : MethodName := ⟨RJ0, "coder", "()B"⟩
abbrev cJ0_isLatin1_aae02 : ByteArray := prog_18_method_154_code
def yJ0_isLatin1_aae02 : MethodName := ⟨RJ0, "isLatin1", "()Z"⟩
abbrev cJ0_checkIndex_df160 : ByteArray := prog_18_method_155_code
def yJ0_checkIndex_df160 : MethodName := ⟨RJ0, "checkIndex", "(II)V"⟩
def RJ1 : String := "java/lang/StringLatin1"
def TJ1 : u_T := fun k => match k with
  | _ => ("", "", "", false)
def tyJ1 : Nat → FieldType := fun k => match k with
  | _ => .int
abbrev wsJ10 : List Cond := u_ws RJ1 TJ1 0
theorem nmJ1 : ∀ a, a < 0 → ∀ b, b < 0 → a ≠ b → (TJ1 a).2.1 ≠ (TJ1 b).2.1 := by decide +kernel
theorem tyJ1_ok : ∀ k, k < 0 → parseFieldDescriptor (TJ1 k).2.2.1 = some (tyJ1 k) := by decide +kernel
abbrev cJ1_charAt_3b067 : ByteArray := prog_19_method_2_code
def yJ1_charAt_3b067 : MethodName := ⟨RJ1, "charAt", "([BI)C"⟩
def RJ2 : String := "java/lang/StringUTF16"
def TJ2 : u_T := fun k => match k with
  | _ => ("", "", "", false)
def tyJ2 : Nat → FieldType := fun k => match k with
  | _ => .int
abbrev wsJ20 : List Cond := u_ws RJ2 TJ2 0
theorem nmJ2 : ∀ a, a < 0 → ∀ b, b < 0 → a ≠ b → (TJ2 a).2.1 ≠ (TJ2 b).2.1 := by decide +kernel
theorem tyJ2_ok : ∀ k, k < 0 → parseFieldDescriptor (TJ2 k).2.2.1 = some (tyJ2 k) := by decide +kernel
abbrev cJ2_getChar_3b067 : ByteArray := prog_20_method_5_code
def yJ2_getChar_3b067 : MethodName := ⟨RJ2, "getChar", "([BI)C"⟩
abbrev cJ2_length_9d52b : ByteArray := prog_20_method_6_code
def yJ2_length_9d52b : MethodName := ⟨RJ2, "length", "([B)I"⟩
abbrev cJ2_charAt_3b067 : ByteArray := prog_20_method_83_code
def yJ2_charAt_3b067 : MethodName := ⟨RJ2, "charAt", "([BI)C"⟩
abbrev cJ2_checkIndex_2214a : ByteArray := prog_20_method_91_code
def yJ2_checkIndex_2214a : MethodName := ⟨RJ2, "checkIndex", "(I[B)V"⟩
def RJ10 : String := "java/lang/System"
def TJ10 : u_T := fun k => match k with
  | _ => ("", "", "", false)
def tyJ10 : Nat → FieldType := fun k => match k with
  | _ => .int
abbrev wsJ100 : List Cond := u_ws RJ10 TJ10 0
theorem nmJ10 : ∀ a, a < 0 → ∀ b, b < 0 → a ≠ b → (TJ10 a).2.1 ≠ (TJ10 b).2.1 := by decide +kernel
theorem tyJ10_ok : ∀ k, k < 0 → parseFieldDescriptor (TJ10 k).2.2.1 = some (tyJ10 k) := by decide +kernel
def RJ3 : String := "jdk/internal/util/Preconditions"
def TJ3 : u_T := fun k => match k with
  | _ => ("", "", "", false)
def tyJ3 : Nat → FieldType := fun k => match k with
  | _ => .int
abbrev wsJ30 : List Cond := u_ws RJ3 TJ3 0
theorem nmJ3 : ∀ a, a < 0 → ∀ b, b < 0 → a ≠ b → (TJ3 a).2.1 ≠ (TJ3 b).2.1 := by decide +kernel
theorem tyJ3_ok : ∀ k, k < 0 → parseFieldDescriptor (TJ3 k).2.2.1 = some (tyJ3 k) := by decide +kernel
abbrev cJ3_checkIndex_8e157 : ByteArray := prog_22_method_11_code
def yJ3_checkIndex_8e157 : MethodName := ⟨RJ3, "checkIndex", "(IILjava/util/function/BiFunction;)I"⟩
def RL : String := "SungEvidenceLaw"
abbrev cL_law : ByteArray := code
def yL_law : MethodName := ⟨RL, "law", "([I)Z"⟩
end
section
/-! ===== the machine of fixed cells: behind the constructors no cell is made and no reference changes; ints as Int, memory by cell and place ===== -/
abbrev jm_S : Type := Nat ⊕ Nat ⊕ List Nat ⊕ (Nat × List (Option Nat))
abbrev jm_M : Type := (Nat → Int → Int) × (Nat → Int → Int64)
abbrev jm_I : Type := MethodName × ByteArray × Nat × Option FieldType
abbrev jm_G : Type := List jm_S × va_G × (Nat → Nat) × (ClassId × ClassId × ClassId) × (State → Prop)
def jm_i (z : Int) : Value := .int (Int32.ofInt z)
def jm_rg (z : Int) : Prop := -2147483648 ≤ z ∧ z < 2147483648
def jm_tv (g : jm_G) : Value → Value
  | .ref k => .ref (g.2.2.1 k)
  | v => v
def jm_lq (g : jm_G) (q : Nat × Value) : Nat × Value := (q.1, jm_tv g q.2)
def jm_fv (g : jm_G) (mu : jm_M) (k : Nat) (j : Nat) (f : Option Nat) : Value := match f with
  | none => jm_i (mu.1 k j)
  | some r => .ref (g.2.2.1 r)
def jm_el (g : jm_G) (mu : jm_M) (k : Nat) (sh : jm_S) : va_E := match sh with
  | .inl n => .inl (g.2.2.2.1.1, n, .inl (fun j => Int32.ofInt (mu.1 k j)))
  | .inr (.inl n) => .inl (g.2.2.2.1.2.1, n, .inr (.inl (fun j => mu.2 k j)))
  | .inr (.inr (.inl rs)) => .inl (g.2.2.2.1.2.2, rs.length, .inr (.inr (.inr (.inr (fun j => (rs[j]?).map g.2.2.1)))))
  | .inr (.inr (.inr o)) => .inr (o.1, o.2.mapIdx (jm_fv g mu k))
def jm_w (g : jm_G) (mu : jm_M) : va_W := g.1.mapIdx (fun k sh => (g.2.2.1 k, jm_el g mu k sh))
def jm_A (g : jm_G) : Nat → Prop := fun q => ∃ k, k < g.1.length ∧ q = g.2.2.1 k
def jm_ty (g : jm_G) : List (ClassId × FieldType) := [(g.2.2.2.1.1, .int), (g.2.2.2.1.2.1, .long), (g.2.2.2.1.2.2, .object "SungEvidence$Court")]
def jm_ok (g : jm_G) : Prop := (∀ i j, i < g.1.length → j < g.1.length → g.2.2.1 i = g.2.2.1 j → i = j) ∧ ∀ s t : State, g.2.2.2.2 s → s.WarmedH t.vm → va_F (jm_A g) s t → g.2.2.2.2 t
def jm_T : List Cond := lw_tbl.filter goodWord
def jm_ws (i : jm_I) : List Cond := .code i.1 i.2.1 i.2.2.1 i.2.2.2 :: jm_T
def jm_cl : List vw_C := [(RX0, TX0, 3), (RX1, TX1, 10), (RX2, TX2, 3), (RX3, TX3, 8), (RX4, TX4, 2), (RX5, TX5, 3), (RX6, TX6, 8), (RX7, TX7, 9), (RX8, TX8, 13), (RX9, TX9, 7), (RX10, TX10, 5), (RX11, TX11, 17), (RX12, TX12, 59)]
def jm_rm (d : Nat) : Room := { frames := d, cells := 0, slots := 0, locals := 40 * d }
def jm_mr (mu : jm_M) : Prop := ∀ (c : Nat) (i : Int), jm_rg (mu.1 c i)
def jm_B (g : jm_G) (mu : jm_M) (U : State) : Prop := va_K g.2.1 jm_cl (jm_ty g) U ∧ va_P g.2.1 jm_cl (jm_w g mu) U.heap ∧ jm_ok g ∧ g.2.2.2.2 U ∧ jm_mr mu
def jm_Q (g : jm_G) (Q : Option Value → jm_M → Prop) : Array Value → State → Outcome → State → Prop := fun _ st oc t => (∃ (r : Option Value) (mu : jm_M), oc = .returned (r.map (jm_tv g)) ∧ Q r mu ∧ va_P g.2.1 jm_cl (jm_w g mu) t.heap ∧ jm_mr mu) ∧ va_F (jm_A g) st t
def jm_C (p : Program) (m : MethodId) (c : Code) (i : jm_I) (s : State) (args : Array Value) (meth : Method) (g : jm_G) : Prop := CallFix p m c i.2.1 i.2.2.1 s args (jm_ws i) i.1.cls ∧ meth.sig.returnType = i.2.2.2 ∧ meth.locks = false ∧ va_K g.2.1 jm_cl (jm_ty g) s ∧ jm_ok g ∧ g.2.2.2.2 s
/-- from here, at depth d, in method i, the machine comes to the method's end with Q -/
def jm_V (l : Launch) (g : jm_G) (d : Nat) (i : jm_I) (pc : Nat) (lv : List (Nat × Value)) (st : List Value) (mu : jm_M) (Q : Option Value → jm_M → Prop) : Prop :=
  ∀ (p : Program) (e : Env) (s : State) (m : MethodId) (args : Array Value) (below : List Frame) (meth : Method) (c : Code) (ls : Array Slot) (H : Heap) (locs : List Loc),
    jm_C p m c i s args meth g → lv_has ls i.2.2.1 (lv.map (jm_lq g)) → va_P g.2.1 jm_cl (jm_w g mu) H → va_S (jm_A g) s.heap H locs → jm_mr mu →
    W p l e (jm_rm d) s m args below meth c H locs 0 0 (MQ below (jm_Q g Q) args s 0 0 (jm_A g)) (F0 m pc ls (st.map (jm_tv g)))
/-- calling method i with these arguments ends with Q, in d frames -/
def jm_R (l : Launch) (g : jm_G) (d : Nat) (i : jm_I) (As : List Value) (mu : jm_M) (Q : Option Value → jm_M → Prop) : Prop :=
  ∃ d0, d0 ≤ d ∧ Met l i.1 (jm_ws i) (jm_rm d0) (va_Pc (As.map (jm_tv g)) (jm_B g mu)) (jm_Q g Q) 0 0 (jm_A g)
def jm_qi (Q : Int → jm_M → Prop) : Option Value → jm_M → Prop := fun r mu => ∃ z, r = some (jm_i z) ∧ jm_rg z ∧ Q z mu
def jm_ql (Q : Int64 → jm_M → Prop) : Option Value → jm_M → Prop := fun r mu => ∃ z, r = some (.long z) ∧ Q z mu
def jm_qv (Q : jm_M → Prop) : Option Value → jm_M → Prop := fun r mu => r = none ∧ Q mu
def jm_wr (mu : jm_M) (c : Nat) (i : Int) (x : Int) : jm_M := (fun a b => if a = c ∧ b = i then x else mu.1 a b, mu.2)
def jm_wl (mu : jm_M) (c : Nat) (i : Int) (x : Int64) : jm_M := (mu.1, fun a b => if a = c ∧ b = i then x else mu.2 a b)
def jm_cp (mu : jm_M) (a : Nat) (sp : Int) (b : Nat) (dp n : Int) : jm_M := (fun c i => if c = b ∧ dp ≤ i ∧ i < dp + n then mu.1 a (sp + (i - dp)) else mu.1 c i, mu.2)
theorem jm_ti {z : Int} (h : jm_rg z) : (Int32.ofInt z).toInt = z := by
  obtain ⟨h1, h2⟩ := h
  exact Int32.toInt_ofInt_of_le (by omega) (by omega)
theorem jm_rgT (x : Int32) : jm_rg x.toInt := by
  have h1 := x.le_toInt
  have h2 := x.toInt_lt
  exact ⟨by omega, by omega⟩
theorem jm_iT (x : Int32) : jm_i x.toInt = .int x := by
  unfold jm_i
  rw [Int32.ofInt_toInt]
theorem jm_tn {z : Int} (h0 : 0 ≤ z) (h1 : z < 2147483648) : ((Int32.ofInt z).toNatClampNeg : Int) = z := by
  show (((Int32.ofInt z).toInt.toNat : Nat) : Int) = z
  rw [jm_ti ⟨by omega, h1⟩]
  omega
theorem jm_in {z : Int} {n : Nat} (h0 : 0 ≤ z) (h1 : z < n) (hn : n ≤ 2147483648) : vp_in (Int32.ofInt z) n := by
  intro h
  have h2 := jm_tn h0 (by omega)
  rcases h with h | h
  · have h3 := Int32.lt_iff_toInt_lt.mp h
    rw [jm_ti ⟨by omega, by omega⟩] at h3
    simp at h3
    omega
  · omega
theorem jm_wa {g : jm_G} {mu : jm_M} {k : Nat} {sh : jm_S} (h : g.1[k]? = some sh) : (jm_w g mu)[k]? = some (g.2.2.1 k, jm_el g mu k sh) := by
  unfold jm_w
  rw [List.getElem?_mapIdx, h]
  rfl
theorem jm_wd {g : jm_G} {mu : jm_M} (h : jm_ok g) : va_D (jm_A g) (jm_w g mu) := by
  have key : ∀ (k : Nat) (q : Nat × va_E), (jm_w g mu)[k]? = some q → k < g.1.length ∧ q.1 = g.2.2.1 k := by
    intro k q hk
    unfold jm_w at hk
    rw [List.getElem?_mapIdx] at hk
    cases hs : g.1[k]? with
    | none => rw [hs] at hk; cases hk
    | some sh =>
      rw [hs] at hk
      cases hk
      exact ⟨(List.getElem?_eq_some_iff.mp hs).1, rfl⟩
  refine ⟨fun i j x y hi hj hxy => ?_, fun k q hk => ?_⟩
  · obtain ⟨h1, h2⟩ := key i x hi
    obtain ⟨h3, h4⟩ := key j y hj
    exact h.1 i j h1 h3 (by rw [← h2, ← h4]; exact hxy)
  · obtain ⟨h1, h2⟩ := key k q hk
    exact ⟨k, h1, h2⟩
/-- a world with one cell changed -/
theorem jm_ws1 {g : jm_G} {mu mu' : jm_M} {k : Nat} {sh : jm_S} {e : va_E} (h : g.1[k]? = some sh) (he : jm_el g mu' k sh = e) (ho : ∀ (j : Nat) (s : jm_S), j ≠ k → g.1[j]? = some s → jm_el g mu' j s = jm_el g mu j s) : (jm_w g mu).set k (g.2.2.1 k, e) = jm_w g mu' := by
  apply List.ext_getElem?
  intro j
  have hl : k < (jm_w g mu).length := by
    unfold jm_w
    rw [List.length_mapIdx]
    exact (List.getElem?_eq_some_iff.mp h).1
  by_cases hj : j = k
  · subst hj
    rw [List.getElem?_set_self hl, jm_wa h, he]
  · rw [List.getElem?_set_ne (fun q => hj q.symm)]
    unfold jm_w
    rw [List.getElem?_mapIdx, List.getElem?_mapIdx]
    cases hs : g.1[j]? with
    | none => rfl
    | some s =>
      show some (g.2.2.1 j, jm_el g mu j s) = some (g.2.2.1 j, jm_el g mu' j s)
      rw [ho j s hj hs]
theorem jm_oth {g : jm_G} {mu : jm_M} {k : Nat} {i : Int} {x : Int} (j : Nat) (s : jm_S) (hj : j ≠ k) : jm_el g (jm_wr mu k i x) j s = jm_el g mu j s := by
  have h : ∀ b : Int, (jm_wr mu k i x).1 j b = mu.1 j b := fun b => by simp [jm_wr, hj]
  rcases s with n | n | rs | o
  · simp only [jm_el, h]
  · rfl
  · rfl
  · have h2 : jm_fv g (jm_wr mu k i x) j = jm_fv g mu j := by
      funext q f
      cases f with
      | none => simp only [jm_fv, h]
      | some r => rfl
    simp only [jm_el, h2]
theorem jm_pick {g : jm_G} {lv : List (Nat × Value)} (ks : List Nat) : lv_pick (lv.map (jm_lq g)) ks = (lv_pick lv ks).map (jm_lq g) := by
  induction ks with
  | nil => rfl
  | cons a t ih =>
    simp only [lv_pick, List.filterMap_cons, List.getElem?_map] at ih ⊢
    cases lv[a]? <;> simp [ih]
theorem jm_cat (g : jm_G) (v : Value) : (jm_tv g v).category = v.category := by cases v <;> rfl
theorem jm_filt1 {g : jm_G} {lv : List (Nat × Value)} (i : Nat) : (lv.map (jm_lq g)).filter (fun q => !(q.1 == i) && !(q.1 + 1 == i && q.2.category == 2)) = (lv.filter (fun q => !(q.1 == i) && !(q.1 + 1 == i && q.2.category == 2))).map (jm_lq g) := by
  rw [List.filter_map]
  congr 1
  apply List.filter_congr
  intro q _
  simp [jm_lq, jm_cat]
theorem jm_filt2 {g : jm_G} {lv : List (Nat × Value)} (i : Nat) : (lv.map (jm_lq g)).filter (fun q => !(q.1 == i) && (!(q.1 == i + 1) && !(q.1 + 1 == i && q.2.category == 2))) = (lv.filter (fun q => !(q.1 == i) && (!(q.1 == i + 1) && !(q.1 + 1 == i && q.2.category == 2)))).map (jm_lq g) := by
  rw [List.filter_map]
  congr 1
  apply List.filter_congr
  intro q _
  simp [jm_lq, jm_cat]
theorem jm_R.up {l : Launch} {g : jm_G} {d d' : Nat} {i : jm_I} {As : List Value} {mu : jm_M} {Q : Option Value → jm_M → Prop} (h : jm_R l g d i As mu Q) (hd : d ≤ d') : jm_R l g d' i As mu Q := by
  obtain ⟨d0, h1, h2⟩ := h
  exact ⟨d0, by omega, h2⟩
end
section
section JR
variable {l : Launch} {g : jm_G} {d : Nat} {i : jm_I} {pc : Nat} {lv lv' : List (Nat × Value)} {st : List Value} {mu : jm_M} {Q : Option Value → jm_M → Prop}
theorem jm_mrI (k : jm_mr mu → jm_V l g d i pc lv st mu Q) : jm_V l g d i pc lv st mu Q :=
  fun p e s m args below meth c ls H locs C hl hP hS hm => k hm p e s m args below meth c ls H locs C hl hP hS hm
theorem jm_sub (ks : List Nat) (hk : lv_pick lv ks = lv') (k : jm_V l g d i pc lv' st mu Q) : jm_V l g d i pc lv st mu Q :=
  fun p e s m args below meth c ls H locs C hl hP hS hm => k p e s m args below meth c ls H locs C (lv_sub hl ks (by rw [jm_pick, hk])) hP hS hm
theorem jm_pop (v : Value) (hd : decode i.2.1 pc = .ok (.pop, 1)) (hv : v.category = 1) (k : jm_V l g d i (pc + 1) lv st mu Q) : jm_V l g d i pc lv (v :: st) mu Q :=
  fun p e s m args below meth c ls H locs C hl hP hS hm => lv_pop C.1.1 C.1.2.1 hd (by rw [jm_cat]; exact hv) (k p e s m args below meth c ls H locs C hl hP hS hm)
theorem jm_dup (v : Value) (hd : decode i.2.1 pc = .ok (.dup, 1)) (hv : v.category = 1) (k : jm_V l g d i (pc + 1) lv (v :: v :: st) mu Q) : jm_V l g d i pc lv (v :: st) mu Q :=
  fun p e s m args below meth c ls H locs C hl hP hS hm => lv_dup C.1.1 C.1.2.1 hd (by rw [jm_cat]; exact hv) (k p e s m args below meth c ls H locs C hl hP hS hm)
theorem jm_dup2 (v u : Value) (hd : decode i.2.1 pc = .ok (.dup2, 1)) (hv : v.category = 1) (hu : u.category = 1) (k : jm_V l g d i (pc + 1) lv (v :: u :: v :: u :: st) mu Q) : jm_V l g d i pc lv (v :: u :: st) mu Q :=
  fun p e s m args below meth c ls H locs C hl hP hS hm => lv_dup2_11 C.1.1 C.1.2.1 hd (by rw [jm_cat]; exact hv) (by rw [jm_cat]; exact hu) (k p e s m args below meth c ls H locs C hl hP hS hm)
theorem jm_iconst {n : Int} (hd : decode i.2.1 pc = .ok (.iconst n, 1)) (k : jm_V l g d i (pc + 1) lv (jm_i n :: st) mu Q) : jm_V l g d i pc lv st mu Q :=
  fun p e s m args below meth c ls H locs C hl hP hS hm => lv_iconst C.1.1 C.1.2.1 hd rfl (k p e s m args below meth c ls H locs C hl hP hS hm)
theorem jm_bipush {n : Int} (hd : decode i.2.1 pc = .ok (.bipush n, 2)) (hn : (Int8.ofInt n).toInt32 = Int32.ofInt n) (k : jm_V l g d i (pc + 2) lv (jm_i n :: st) mu Q) : jm_V l g d i pc lv st mu Q :=
  fun p e s m args below meth c ls H locs C hl hP hS hm => lv_bipush C.1.1 C.1.2.1 hd hn (k p e s m args below meth c ls H locs C hl hP hS hm)
theorem jm_sipush {n : Int} (hd : decode i.2.1 pc = .ok (.sipush n, 3)) (hn : (Int16.ofInt n).toInt32 = Int32.ofInt n) (k : jm_V l g d i (pc + 3) lv (jm_i n :: st) mu Q) : jm_V l g d i pc lv st mu Q :=
  fun p e s m args below meth c ls H locs C hl hP hS hm => lv_sipush C.1.1 C.1.2.1 hd hn (k p e s m args below meth c ls H locs C hl hP hS hm)
theorem jm_lconst {n : Fin 2} {v : Int64} (hd : decode i.2.1 pc = .ok (.lconst n, 1)) (hv : Int64.ofNat (n : Nat) = v) (k : jm_V l g d i (pc + 1) lv (.long v :: st) mu Q) : jm_V l g d i pc lv st mu Q :=
  fun p e s m args below meth c ls H locs C hl hP hS hm => lv_lconst C.1.1 C.1.2.1 hd hv (k p e s m args below meth c ls H locs C hl hP hS hm)
theorem jm_ldc {idx : Nat} {v : Int32} (z : Int) (hd : decode i.2.1 pc = .ok (.ldc idx, 2)) (hw : Cond.constant i.1.cls idx v ∈ jm_T) (hz : v = Int32.ofInt z) (k : jm_V l g d i (pc + 2) lv (jm_i z :: st) mu Q) : jm_V l g d i pc lv st mu Q :=
  fun p e s m args below meth c ls H locs C hl hP hS hm => lv_ldc C.1.1 C.1.2.1 C.1.2.2.2.1 (C.1.2.2.2.2 _ (List.mem_cons_of_mem _ hw)) hd (hz ▸ k p e s m args below meth c ls H locs C hl hP hS hm)
theorem jm_ldcw {idx : Nat} {v : Int32} (z : Int) (hd : decode i.2.1 pc = .ok (.ldc_w idx, 3)) (hw : Cond.constant i.1.cls idx v ∈ jm_T) (hz : v = Int32.ofInt z) (k : jm_V l g d i (pc + 3) lv (jm_i z :: st) mu Q) : jm_V l g d i pc lv st mu Q :=
  fun p e s m args below meth c ls H locs C hl hP hS hm => lv_ldcw C.1.1 C.1.2.1 C.1.2.2.2.1 (C.1.2.2.2.2 _ (List.mem_cons_of_mem _ hw)) hd (hz ▸ k p e s m args below meth c ls H locs C hl hP hS hm)
theorem jm_ldc2 {idx : Nat} {v : Int64} (hd : decode i.2.1 pc = .ok (.ldc2_w idx, 3)) (hw : Cond.constantLong i.1.cls idx v ∈ jm_T) (k : jm_V l g d i (pc + 3) lv (.long v :: st) mu Q) : jm_V l g d i pc lv st mu Q :=
  fun p e s m args below meth c ls H locs C hl hP hS hm => lv_ldc2 C.1.1 C.1.2.1 C.1.2.2.2.1 (C.1.2.2.2.2 _ (List.mem_cons_of_mem _ hw)) hd (k p e s m args below meth c ls H locs C hl hP hS hm)
theorem jm_at {g : jm_G} {ls : Array Slot} {nL : Nat} {lv : List (Nat × Value)} (hl : lv_has ls nL (lv.map (jm_lq g))) (k : Nat) {j : Nat} {v : Value} (hk : lv[k]? = some (j, v)) : ls[j]? = some (.val (jm_tv g v)) :=
  lv_at hl k (by rw [List.getElem?_map, hk]; rfl)
theorem jm_iload_n {k : Fin 4} {x : Int} (q : Nat) (hd : decode i.2.1 pc = .ok (.iload_n k, 1)) (hk : lv[q]? = some (k.val, jm_i x)) (kk : jm_V l g d i (pc + 1) lv (jm_i x :: st) mu Q) : jm_V l g d i pc lv st mu Q :=
  fun p e s m args below meth c ls H locs C hl hP hS hm => lv_iload_n C.1.1 C.1.2.1 hd rfl (jm_at hl q hk) (kk p e s m args below meth c ls H locs C hl hP hS hm)
theorem jm_iload {j : Nat} {x : Int} (q : Nat) (hd : decode i.2.1 pc = .ok (.iload j, 2)) (hk : lv[q]? = some (j, jm_i x)) (kk : jm_V l g d i (pc + 2) lv (jm_i x :: st) mu Q) : jm_V l g d i pc lv st mu Q :=
  fun p e s m args below meth c ls H locs C hl hP hS hm => lv_iload C.1.1 C.1.2.1 hd (jm_at hl q hk) (kk p e s m args below meth c ls H locs C hl hP hS hm)
theorem jm_lload_n {k : Fin 4} {x : Int64} (q : Nat) (hd : decode i.2.1 pc = .ok (.lload_n k, 1)) (hk : lv[q]? = some (k.val, .long x)) (kk : jm_V l g d i (pc + 1) lv (.long x :: st) mu Q) : jm_V l g d i pc lv st mu Q :=
  fun p e s m args below meth c ls H locs C hl hP hS hm => lv_lload_n C.1.1 C.1.2.1 hd rfl (jm_at hl q hk) (kk p e s m args below meth c ls H locs C hl hP hS hm)
theorem jm_lload {j : Nat} {x : Int64} (q : Nat) (hd : decode i.2.1 pc = .ok (.lload j, 2)) (hk : lv[q]? = some (j, .long x)) (kk : jm_V l g d i (pc + 2) lv (.long x :: st) mu Q) : jm_V l g d i pc lv st mu Q :=
  fun p e s m args below meth c ls H locs C hl hP hS hm => lv_lload C.1.1 C.1.2.1 hd (jm_at hl q hk) (kk p e s m args below meth c ls H locs C hl hP hS hm)
theorem jm_aload_n {k : Fin 4} {x : Nat} (q : Nat) (hd : decode i.2.1 pc = .ok (.aload_n k, 1)) (hk : lv[q]? = some (k.val, .ref x)) (kk : jm_V l g d i (pc + 1) lv (.ref x :: st) mu Q) : jm_V l g d i pc lv st mu Q :=
  fun p e s m args below meth c ls H locs C hl hP hS hm => lv_aload_n C.1.1 C.1.2.1 hd rfl (jm_at hl q hk) (kk p e s m args below meth c ls H locs C hl hP hS hm)
theorem jm_aload {j : Nat} {x : Nat} (q : Nat) (hd : decode i.2.1 pc = .ok (.aload j, 2)) (hk : lv[q]? = some (j, .ref x)) (kk : jm_V l g d i (pc + 2) lv (.ref x :: st) mu Q) : jm_V l g d i pc lv st mu Q :=
  fun p e s m args below meth c ls H locs C hl hP hS hm => lv_aload C.1.1 C.1.2.1 hd (jm_at hl q hk) (kk p e s m args below meth c ls H locs C hl hP hS hm)
theorem jm_istore_n {k : Fin 4} {x : Int} (hd : decode i.2.1 pc = .ok (.istore_n k, 1)) (hn : k.val < i.2.2.1) (hl' : (k.val, jm_i x) :: lv.filter (fun q => !(q.1 == k.val) && !(q.1 + 1 == k.val && q.2.category == 2)) = lv') (kk : jm_V l g d i (pc + 1) lv' st mu Q) : jm_V l g d i pc lv (jm_i x :: st) mu Q := by
  intro p e s m args below meth c ls H locs C hl hP hS hm
  refine lv_istore_n C.1.1 C.1.2.1 hd rfl hl hn (lv' := lv'.map (jm_lq g)) ?_ (fun ls' hl2 => kk p e s m args below meth c ls' H locs C hl2 hP hS hm)
  rw [← hl', jm_filt1]
  rfl
theorem jm_istore {j : Nat} {x : Int} (hd : decode i.2.1 pc = .ok (.istore j, 2)) (hn : j < i.2.2.1) (hl' : (j, jm_i x) :: lv.filter (fun q => !(q.1 == j) && !(q.1 + 1 == j && q.2.category == 2)) = lv') (kk : jm_V l g d i (pc + 2) lv' st mu Q) : jm_V l g d i pc lv (jm_i x :: st) mu Q := by
  intro p e s m args below meth c ls H locs C hl hP hS hm
  refine lv_istore C.1.1 C.1.2.1 hd hl hn (lv' := lv'.map (jm_lq g)) ?_ (fun ls' hl2 => kk p e s m args below meth c ls' H locs C hl2 hP hS hm)
  rw [← hl', jm_filt1]
  rfl
theorem jm_astore_n {k : Fin 4} {x : Nat} (hd : decode i.2.1 pc = .ok (.astore_n k, 1)) (hn : k.val < i.2.2.1) (hl' : (k.val, .ref x) :: lv.filter (fun q => !(q.1 == k.val) && !(q.1 + 1 == k.val && q.2.category == 2)) = lv') (kk : jm_V l g d i (pc + 1) lv' st mu Q) : jm_V l g d i pc lv (.ref x :: st) mu Q := by
  intro p e s m args below meth c ls H locs C hl hP hS hm
  refine lv_astore_n C.1.1 C.1.2.1 hd rfl hl hn (lv' := lv'.map (jm_lq g)) ?_ (fun ls' hl2 => kk p e s m args below meth c ls' H locs C hl2 hP hS hm)
  rw [← hl', jm_filt1]
  rfl
theorem jm_astore {j : Nat} {x : Nat} (hd : decode i.2.1 pc = .ok (.astore j, 2)) (hn : j < i.2.2.1) (hl' : (j, .ref x) :: lv.filter (fun q => !(q.1 == j) && !(q.1 + 1 == j && q.2.category == 2)) = lv') (kk : jm_V l g d i (pc + 2) lv' st mu Q) : jm_V l g d i pc lv (.ref x :: st) mu Q := by
  intro p e s m args below meth c ls H locs C hl hP hS hm
  refine lv_astore C.1.1 C.1.2.1 hd hl hn (lv' := lv'.map (jm_lq g)) ?_ (fun ls' hl2 => kk p e s m args below meth c ls' H locs C hl2 hP hS hm)
  rw [← hl', jm_filt1]
  rfl
theorem jm_lstore_n {k : Fin 4} {x : Int64} (hd : decode i.2.1 pc = .ok (.lstore_n k, 1)) (hn : k.val + 1 < i.2.2.1) (hl' : (k.val, .long x) :: lv.filter (fun q => !(q.1 == k.val) && (!(q.1 == k.val + 1) && !(q.1 + 1 == k.val && q.2.category == 2))) = lv') (kk : jm_V l g d i (pc + 1) lv' st mu Q) : jm_V l g d i pc lv (.long x :: st) mu Q := by
  intro p e s m args below meth c ls H locs C hl hP hS hm
  refine lv_lstore_n C.1.1 C.1.2.1 hd rfl hl hn (lv' := lv'.map (jm_lq g)) ?_ (fun ls' hl2 => kk p e s m args below meth c ls' H locs C hl2 hP hS hm)
  rw [← hl', jm_filt2]
  rfl
theorem jm_lstore {j : Nat} {x : Int64} (hd : decode i.2.1 pc = .ok (.lstore j, 2)) (hn : j + 1 < i.2.2.1) (hl' : (j, .long x) :: lv.filter (fun q => !(q.1 == j) && (!(q.1 == j + 1) && !(q.1 + 1 == j && q.2.category == 2))) = lv') (kk : jm_V l g d i (pc + 2) lv' st mu Q) : jm_V l g d i pc lv (.long x :: st) mu Q := by
  intro p e s m args below meth c ls H locs C hl hP hS hm
  refine lv_lstore C.1.1 C.1.2.1 hd hl hn (lv' := lv'.map (jm_lq g)) ?_ (fun ls' hl2 => kk p e s m args below meth c ls' H locs C hl2 hP hS hm)
  rw [← hl', jm_filt2]
  rfl
theorem jm_iinc {j : Nat} {n x : Int} (q : Nat) (hd : decode i.2.1 pc = .ok (.iinc j n, 3)) (hk : lv[q]? = some (j, jm_i x)) (hn : j < i.2.2.1) (hl' : (j, jm_i (x + n)) :: lv.filter (fun q => !(q.1 == j) && !(q.1 + 1 == j && q.2.category == 2)) = lv') (kk : jm_V l g d i (pc + 3) lv' st mu Q) : jm_V l g d i pc lv st mu Q := by
  intro p e s m args below meth c ls H locs C hl hP hS hm
  refine lv_iinc (k := q) (x := Int32.ofInt x) (v := Int32.ofInt (x + n)) C.1.1 C.1.2.1 hd hl ?_ ?_ hn (lv' := lv'.map (jm_lq g)) ?_ (fun ls' hl2 => kk p e s m args below meth c ls' H locs C hl2 hP hS hm)
  · rw [List.getElem?_map, hk]
    rfl
  · rw [Int32.ofInt_add]
  · rw [← hl', jm_filt1]
    rfl
theorem jm_iadd {a b : Int} (hd : decode i.2.1 pc = .ok (.iadd, 1)) (k : jm_V l g d i (pc + 1) lv (jm_i (a + b) :: st) mu Q) : jm_V l g d i pc lv (jm_i b :: jm_i a :: st) mu Q := by
  intro p e s m args below meth c ls H locs C hl hP hS hm
  refine lv_iadd (x := Int32.ofInt a) (y := Int32.ofInt b) C.1.1 C.1.2.1 hd ?_
  rw [← Int32.ofInt_add]
  exact k p e s m args below meth c ls H locs C hl hP hS hm
theorem jm_isub {a b : Int} (hd : decode i.2.1 pc = .ok (.isub, 1)) (k : jm_V l g d i (pc + 1) lv (jm_i (a - b) :: st) mu Q) : jm_V l g d i pc lv (jm_i b :: jm_i a :: st) mu Q := by
  intro p e s m args below meth c ls H locs C hl hP hS hm
  refine lv_isub (x := Int32.ofInt a) (y := Int32.ofInt b) C.1.1 C.1.2.1 hd ?_
  rw [← Int32.ofInt_sub]
  exact k p e s m args below meth c ls H locs C hl hP hS hm
theorem jm_imul {a b : Int} (hd : decode i.2.1 pc = .ok (.imul, 1)) (k : jm_V l g d i (pc + 1) lv (jm_i (a * b) :: st) mu Q) : jm_V l g d i pc lv (jm_i b :: jm_i a :: st) mu Q := by
  intro p e s m args below meth c ls H locs C hl hP hS hm
  refine lv_imul (x := Int32.ofInt a) (y := Int32.ofInt b) C.1.1 C.1.2.1 hd ?_
  rw [← Int32.ofInt_mul]
  exact k p e s m args below meth c ls H locs C hl hP hS hm
theorem jm_ineg {a : Int} (hd : decode i.2.1 pc = .ok (.ineg, 1)) (k : jm_V l g d i (pc + 1) lv (jm_i (-a) :: st) mu Q) : jm_V l g d i pc lv (jm_i a :: st) mu Q := by
  intro p e s m args below meth c ls H locs C hl hP hS hm
  refine lv_ineg (x := Int32.ofInt a) C.1.1 C.1.2.1 hd ?_
  rw [← Int32.ofInt_neg]
  exact k p e s m args below meth c ls H locs C hl hP hS hm
theorem jm_z0 {b : Int} (hb : jm_rg b) (h : ¬ b = 0) : ¬ Int32.ofInt b = 0 := by
  intro q
  have h2 := congrArg Int32.toInt q
  rw [jm_ti hb] at h2
  exact h (by simpa using h2)
theorem jm_dv {a b : Int} (ha : jm_rg a) (hb : jm_rg b) : Int32.ofInt (a.tdiv b) = Int32.ofInt a / Int32.ofInt b :=
  Int32.ofInt_tdiv (by have := ha.1; show (-2147483648 : Int) ≤ a; omega) (by have := ha.2; show a ≤ (2147483647 : Int); omega) (by have := hb.1; show (-2147483648 : Int) ≤ b; omega) (by have := hb.2; show b ≤ (2147483647 : Int); omega)
theorem jm_idiv {a b : Int} (ha : jm_rg a) (hb : jm_rg b) (h0 : ¬ b = 0) (hd : decode i.2.1 pc = .ok (.idiv, 1)) (k : jm_V l g d i (pc + 1) lv (jm_i (a.tdiv b) :: st) mu Q) : jm_V l g d i pc lv (jm_i b :: jm_i a :: st) mu Q := by
  intro p e s m args below meth c ls H locs C hl hP hS hm
  refine lv_idiv (x := Int32.ofInt a) (y := Int32.ofInt b) C.1.1 C.1.2.1 hd (jm_z0 hb h0) ?_
  rw [← jm_dv ha hb]
  exact k p e s m args below meth c ls H locs C hl hP hS hm
theorem jm_irem {a b : Int} (ha : jm_rg a) (hb : jm_rg b) (h0 : ¬ b = 0) (hd : decode i.2.1 pc = .ok (.irem, 1)) (k : jm_V l g d i (pc + 1) lv (jm_i (a.tmod b) :: st) mu Q) : jm_V l g d i pc lv (jm_i b :: jm_i a :: st) mu Q := by
  intro p e s m args below meth c ls H locs C hl hP hS hm
  refine lv_irem (x := Int32.ofInt a) (y := Int32.ofInt b) C.1.1 C.1.2.1 hd (jm_z0 hb h0) ?_
  have e1 : a.tmod b = a - a.tdiv b * b := by
    have h3 := Int.tmod_add_tdiv_mul a b
    omega
  have e2 : Int32.ofInt a - Int32.ofInt a / Int32.ofInt b * Int32.ofInt b = Int32.ofInt (a.tmod b) := by
    rw [← jm_dv ha hb, ← Int32.ofInt_mul, ← Int32.ofInt_sub, e1]
  rw [e2]
  exact k p e s m args below meth c ls H locs C hl hP hS hm
def jm_and (a b : Int) : Int := (Int32.ofInt a &&& Int32.ofInt b).toInt
theorem jm_iand {a b : Int} (hd : decode i.2.1 pc = .ok (.iand, 1)) (k : jm_V l g d i (pc + 1) lv (jm_i (jm_and a b) :: st) mu Q) : jm_V l g d i pc lv (jm_i b :: jm_i a :: st) mu Q := by
  intro p e s m args below meth c ls H locs C hl hP hS hm
  refine lv_iand (x := Int32.ofInt a) (y := Int32.ofInt b) C.1.1 C.1.2.1 hd ?_
  have h := k p e s m args below meth c ls H locs C hl hP hS hm
  unfold jm_and at h
  rw [jm_iT] at h
  exact h
def jm_or (a b : Int) : Int := (Int32.ofInt a ||| Int32.ofInt b).toInt
theorem jm_ior {a b : Int} (hd : decode i.2.1 pc = .ok (.ior, 1)) (k : jm_V l g d i (pc + 1) lv (jm_i (jm_or a b) :: st) mu Q) : jm_V l g d i pc lv (jm_i b :: jm_i a :: st) mu Q := by
  intro p e s m args below meth c ls H locs C hl hP hS hm
  refine lv_ior (x := Int32.ofInt a) (y := Int32.ofInt b) C.1.1 C.1.2.1 hd ?_
  have h := k p e s m args below meth c ls H locs C hl hP hS hm
  unfold jm_or at h
  rw [jm_iT] at h
  exact h
def jm_xor (a b : Int) : Int := (Int32.ofInt a ^^^ Int32.ofInt b).toInt
theorem jm_ixor {a b : Int} (hd : decode i.2.1 pc = .ok (.ixor, 1)) (k : jm_V l g d i (pc + 1) lv (jm_i (jm_xor a b) :: st) mu Q) : jm_V l g d i pc lv (jm_i b :: jm_i a :: st) mu Q := by
  intro p e s m args below meth c ls H locs C hl hP hS hm
  refine lv_ixor (x := Int32.ofInt a) (y := Int32.ofInt b) C.1.1 C.1.2.1 hd ?_
  have h := k p e s m args below meth c ls H locs C hl hP hS hm
  unfold jm_xor at h
  rw [jm_iT] at h
  exact h
def jm_shl (a b : Int) : Int := (Int32.ofInt a <<< (Int32.ofInt b &&& 31)).toInt
theorem jm_ishl {a b : Int} (hd : decode i.2.1 pc = .ok (.ishl, 1)) (k : jm_V l g d i (pc + 1) lv (jm_i (jm_shl a b) :: st) mu Q) : jm_V l g d i pc lv (jm_i b :: jm_i a :: st) mu Q := by
  intro p e s m args below meth c ls H locs C hl hP hS hm
  refine lv_ishl (x := Int32.ofInt a) (y := Int32.ofInt b) C.1.1 C.1.2.1 hd ?_
  have h := k p e s m args below meth c ls H locs C hl hP hS hm
  unfold jm_shl at h
  rw [jm_iT] at h
  exact h
def jm_shr (a b : Int) : Int := (Int32.ofInt a >>> (Int32.ofInt b &&& 31)).toInt
theorem jm_ishr {a b : Int} (hd : decode i.2.1 pc = .ok (.ishr, 1)) (k : jm_V l g d i (pc + 1) lv (jm_i (jm_shr a b) :: st) mu Q) : jm_V l g d i pc lv (jm_i b :: jm_i a :: st) mu Q := by
  intro p e s m args below meth c ls H locs C hl hP hS hm
  refine lv_ishr (x := Int32.ofInt a) (y := Int32.ofInt b) C.1.1 C.1.2.1 hd ?_
  have h := k p e s m args below meth c ls H locs C hl hP hS hm
  unfold jm_shr at h
  rw [jm_iT] at h
  exact h
def jm_ushr (a b : Int) : Int := (((Int32.ofInt a).toUInt32 >>> ((Int32.ofInt b).toUInt32 &&& Int32.toUInt32 31)).toInt32).toInt
theorem jm_iushr {a b : Int} (hd : decode i.2.1 pc = .ok (.iushr, 1)) (k : jm_V l g d i (pc + 1) lv (jm_i (jm_ushr a b) :: st) mu Q) : jm_V l g d i pc lv (jm_i b :: jm_i a :: st) mu Q := by
  intro p e s m args below meth c ls H locs C hl hP hS hm
  refine lv_iushr (x := Int32.ofInt a) (y := Int32.ofInt b) C.1.1 C.1.2.1 hd rfl ?_
  have h := k p e s m args below meth c ls H locs C hl hP hS hm
  unfold jm_ushr at h
  rw [jm_iT] at h
  exact h
theorem jm_ladd {a b : Int64} (hd : decode i.2.1 pc = .ok (.ladd, 1)) (k : jm_V l g d i (pc + 1) lv (.long (a + b) :: st) mu Q) : jm_V l g d i pc lv (.long b :: .long a :: st) mu Q :=
  fun p e s m args below meth c ls H locs C hl hP hS hm => lv_ladd C.1.1 C.1.2.1 hd (k p e s m args below meth c ls H locs C hl hP hS hm)
theorem jm_lsub {a b : Int64} (hd : decode i.2.1 pc = .ok (.lsub, 1)) (k : jm_V l g d i (pc + 1) lv (.long (a - b) :: st) mu Q) : jm_V l g d i pc lv (.long b :: .long a :: st) mu Q :=
  fun p e s m args below meth c ls H locs C hl hP hS hm => lv_lsub C.1.1 C.1.2.1 hd (k p e s m args below meth c ls H locs C hl hP hS hm)
theorem jm_lmul {a b : Int64} (hd : decode i.2.1 pc = .ok (.lmul, 1)) (k : jm_V l g d i (pc + 1) lv (.long (a * b) :: st) mu Q) : jm_V l g d i pc lv (.long b :: .long a :: st) mu Q :=
  fun p e s m args below meth c ls H locs C hl hP hS hm => lv_lmul C.1.1 C.1.2.1 hd (k p e s m args below meth c ls H locs C hl hP hS hm)
theorem jm_land {a b : Int64} (hd : decode i.2.1 pc = .ok (.land, 1)) (k : jm_V l g d i (pc + 1) lv (.long (a &&& b) :: st) mu Q) : jm_V l g d i pc lv (.long b :: .long a :: st) mu Q :=
  fun p e s m args below meth c ls H locs C hl hP hS hm => lv_land C.1.1 C.1.2.1 hd (k p e s m args below meth c ls H locs C hl hP hS hm)
theorem jm_lor {a b : Int64} (hd : decode i.2.1 pc = .ok (.lor, 1)) (k : jm_V l g d i (pc + 1) lv (.long (a ||| b) :: st) mu Q) : jm_V l g d i pc lv (.long b :: .long a :: st) mu Q :=
  fun p e s m args below meth c ls H locs C hl hP hS hm => lv_lor C.1.1 C.1.2.1 hd (k p e s m args below meth c ls H locs C hl hP hS hm)
theorem jm_ldiv {a b : Int64} (h0 : ¬ b = 0) (hd : decode i.2.1 pc = .ok (.ldiv, 1)) (k : jm_V l g d i (pc + 1) lv (.long (a / b) :: st) mu Q) : jm_V l g d i pc lv (.long b :: .long a :: st) mu Q :=
  fun p e s m args below meth c ls H locs C hl hP hS hm => lv_ldiv C.1.1 C.1.2.1 hd h0 (k p e s m args below meth c ls H locs C hl hP hS hm)
theorem jm_lshl {a : Int64} {b : Int} (hd : decode i.2.1 pc = .ok (.lshl, 1)) (k : jm_V l g d i (pc + 1) lv (.long (a <<< ((Int32.ofInt b).toInt64 &&& 63)) :: st) mu Q) : jm_V l g d i pc lv (jm_i b :: .long a :: st) mu Q :=
  fun p e s m args below meth c ls H locs C hl hP hS hm => lv_lshl (y := Int32.ofInt b) C.1.1 C.1.2.1 hd rfl (k p e s m args below meth c ls H locs C hl hP hS hm)
theorem jm_lshr {a : Int64} {b : Int} (hd : decode i.2.1 pc = .ok (.lshr, 1)) (k : jm_V l g d i (pc + 1) lv (.long (a >>> ((Int32.ofInt b).toInt64 &&& 63)) :: st) mu Q) : jm_V l g d i pc lv (jm_i b :: .long a :: st) mu Q :=
  fun p e s m args below meth c ls H locs C hl hP hS hm => lv_lshr (y := Int32.ofInt b) C.1.1 C.1.2.1 hd rfl (k p e s m args below meth c ls H locs C hl hP hS hm)
theorem jm_lushr {a : Int64} {b : Int} (hd : decode i.2.1 pc = .ok (.lushr, 1)) (k : jm_V l g d i (pc + 1) lv (.long ((a.toUInt64 >>> ((Int32.ofInt b).toInt64.toUInt64 &&& Int64.toUInt64 63)).toInt64) :: st) mu Q) : jm_V l g d i pc lv (jm_i b :: .long a :: st) mu Q :=
  fun p e s m args below meth c ls H locs C hl hP hS hm => lv_lushr (y := Int32.ofInt b) C.1.1 C.1.2.1 hd rfl (k p e s m args below meth c ls H locs C hl hP hS hm)
theorem jm_i2l {a : Int} (hd : decode i.2.1 pc = .ok (.i2l, 1)) (k : jm_V l g d i (pc + 1) lv (.long ((Int32.ofInt a).toInt64) :: st) mu Q) : jm_V l g d i pc lv (jm_i a :: st) mu Q :=
  fun p e s m args below meth c ls H locs C hl hP hS hm => lv_i2l (x := Int32.ofInt a) C.1.1 C.1.2.1 hd rfl (k p e s m args below meth c ls H locs C hl hP hS hm)
theorem jm_l2i {a : Int64} (hd : decode i.2.1 pc = .ok (.l2i, 1)) (k : jm_V l g d i (pc + 1) lv (jm_i a.toInt32.toInt :: st) mu Q) : jm_V l g d i pc lv (.long a :: st) mu Q := by
  intro p e s m args below meth c ls H locs C hl hP hS hm
  refine lv_l2i C.1.1 C.1.2.1 hd rfl ?_
  have h := k p e s m args below meth c ls H locs C hl hP hS hm
  rw [jm_iT] at h
  exact h
theorem jm_lcmp {a b : Int64} (hd : decode i.2.1 pc = .ok (.lcmp, 1)) (k : jm_V l g d i (pc + 1) lv (jm_i (lg_cmp a b).toInt :: st) mu Q) : jm_V l g d i pc lv (.long b :: .long a :: st) mu Q := by
  intro p e s m args below meth c ls H locs C hl hP hS hm
  refine W.lcmp C.1.1 C.1.2.1 hd ?_
  have h := k p e s m args below meth c ls H locs C hl hP hS hm
  rw [jm_iT] at h
  exact h
theorem jm_goto {off : Int} (tgt : Nat) (hd : decode i.2.1 pc = .ok (.goto off, 3)) (ht : (pc : Int) + off = (tgt : Int)) (k : jm_V l g d i tgt lv st mu Q) : jm_V l g d i pc lv st mu Q :=
  fun p e s m args below meth c ls H locs C hl hP hS hm => lv_goto C.1.1 C.1.2.1 hd ht (k p e s m args below meth c ls H locs C hl hP hS hm)
theorem jm_cl1 {a b : Int} (ha : jm_rg a) (hb : jm_rg b) : Int32.ofInt a < Int32.ofInt b ↔ a < b := by rw [Int32.lt_iff_toInt_lt, jm_ti ha, jm_ti hb]
theorem jm_cl2 {a b : Int} (ha : jm_rg a) (hb : jm_rg b) : Int32.ofInt a ≤ Int32.ofInt b ↔ a ≤ b := by rw [Int32.le_iff_toInt_le, jm_ti ha, jm_ti hb]
theorem jm_cl3 {a b : Int} (ha : jm_rg a) (hb : jm_rg b) : Int32.ofInt a = Int32.ofInt b ↔ a = b := by rw [← Int32.toInt_inj, jm_ti ha, jm_ti hb]
theorem jm_rg0 : jm_rg 0 := ⟨by decide, by decide⟩
theorem jm_icmp_eq {a b off : Int} (tgt : Nat) (hd : decode i.2.1 pc = .ok (.if_icmp .eq off, 3)) (ht : (pc : Int) + off = (tgt : Int)) (ha : jm_rg a) (hb : jm_rg b) (kt : a = b → jm_V l g d i tgt lv st mu Q) (kf : ¬ a = b → jm_V l g d i (pc + 3) lv st mu Q) : jm_V l g d i pc lv (jm_i b :: jm_i a :: st) mu Q :=
  fun p e s m args below meth c ls H locs C hl hP hS hm => lv_icmp_eq C.1.1 C.1.2.1 hd ht (fun q => kt ((jm_cl3 ha hb).mp q) p e s m args below meth c ls H locs C hl hP hS hm) (fun q => kf (fun r => q ((jm_cl3 ha hb).mpr r)) p e s m args below meth c ls H locs C hl hP hS hm)
theorem jm_if_eq {a off : Int} (tgt : Nat) (hd : decode i.2.1 pc = .ok (.ifCond .eq off, 3)) (ht : (pc : Int) + off = (tgt : Int)) (ha : jm_rg a) (kt : a = 0 → jm_V l g d i tgt lv st mu Q) (kf : ¬ a = 0 → jm_V l g d i (pc + 3) lv st mu Q) : jm_V l g d i pc lv (jm_i a :: st) mu Q :=
  fun p e s m args below meth c ls H locs C hl hP hS hm => lv_if_eq C.1.1 C.1.2.1 hd ht (fun q => kt ((jm_cl3 ha jm_rg0).mp q) p e s m args below meth c ls H locs C hl hP hS hm) (fun q => kf (fun r => q ((jm_cl3 ha jm_rg0).mpr r)) p e s m args below meth c ls H locs C hl hP hS hm)
theorem jm_icmp_ne {a b off : Int} (tgt : Nat) (hd : decode i.2.1 pc = .ok (.if_icmp .ne off, 3)) (ht : (pc : Int) + off = (tgt : Int)) (ha : jm_rg a) (hb : jm_rg b) (kt : ¬ a = b → jm_V l g d i tgt lv st mu Q) (kf : a = b → jm_V l g d i (pc + 3) lv st mu Q) : jm_V l g d i pc lv (jm_i b :: jm_i a :: st) mu Q :=
  fun p e s m args below meth c ls H locs C hl hP hS hm => lv_icmp_ne C.1.1 C.1.2.1 hd ht (fun q => kt (fun r => q ((jm_cl3 ha hb).mpr r)) p e s m args below meth c ls H locs C hl hP hS hm) (fun q => kf ((jm_cl3 ha hb).mp q) p e s m args below meth c ls H locs C hl hP hS hm)
theorem jm_if_ne {a off : Int} (tgt : Nat) (hd : decode i.2.1 pc = .ok (.ifCond .ne off, 3)) (ht : (pc : Int) + off = (tgt : Int)) (ha : jm_rg a) (kt : ¬ a = 0 → jm_V l g d i tgt lv st mu Q) (kf : a = 0 → jm_V l g d i (pc + 3) lv st mu Q) : jm_V l g d i pc lv (jm_i a :: st) mu Q :=
  fun p e s m args below meth c ls H locs C hl hP hS hm => lv_if_ne C.1.1 C.1.2.1 hd ht (fun q => kt (fun r => q ((jm_cl3 ha jm_rg0).mpr r)) p e s m args below meth c ls H locs C hl hP hS hm) (fun q => kf ((jm_cl3 ha jm_rg0).mp q) p e s m args below meth c ls H locs C hl hP hS hm)
theorem jm_icmp_lt {a b off : Int} (tgt : Nat) (hd : decode i.2.1 pc = .ok (.if_icmp .lt off, 3)) (ht : (pc : Int) + off = (tgt : Int)) (ha : jm_rg a) (hb : jm_rg b) (kt : a < b → jm_V l g d i tgt lv st mu Q) (kf : b ≤ a → jm_V l g d i (pc + 3) lv st mu Q) : jm_V l g d i pc lv (jm_i b :: jm_i a :: st) mu Q :=
  fun p e s m args below meth c ls H locs C hl hP hS hm => lv_icmp_lt C.1.1 C.1.2.1 hd ht (fun q => kt ((jm_cl1 ha hb).mp q) p e s m args below meth c ls H locs C hl hP hS hm) (fun q => kf (Int.not_lt.mp (fun r => q ((jm_cl1 ha hb).mpr r))) p e s m args below meth c ls H locs C hl hP hS hm)
theorem jm_if_lt {a off : Int} (tgt : Nat) (hd : decode i.2.1 pc = .ok (.ifCond .lt off, 3)) (ht : (pc : Int) + off = (tgt : Int)) (ha : jm_rg a) (kt : a < 0 → jm_V l g d i tgt lv st mu Q) (kf : 0 ≤ a → jm_V l g d i (pc + 3) lv st mu Q) : jm_V l g d i pc lv (jm_i a :: st) mu Q :=
  fun p e s m args below meth c ls H locs C hl hP hS hm => lv_if_lt C.1.1 C.1.2.1 hd ht (fun q => kt ((jm_cl1 ha jm_rg0).mp q) p e s m args below meth c ls H locs C hl hP hS hm) (fun q => kf (Int.not_lt.mp (fun r => q ((jm_cl1 ha jm_rg0).mpr r))) p e s m args below meth c ls H locs C hl hP hS hm)
theorem jm_icmp_ge {a b off : Int} (tgt : Nat) (hd : decode i.2.1 pc = .ok (.if_icmp .ge off, 3)) (ht : (pc : Int) + off = (tgt : Int)) (ha : jm_rg a) (hb : jm_rg b) (kt : b ≤ a → jm_V l g d i tgt lv st mu Q) (kf : a < b → jm_V l g d i (pc + 3) lv st mu Q) : jm_V l g d i pc lv (jm_i b :: jm_i a :: st) mu Q :=
  fun p e s m args below meth c ls H locs C hl hP hS hm => lv_icmp_ge C.1.1 C.1.2.1 hd ht (fun q => kt ((jm_cl2 hb ha).mp q) p e s m args below meth c ls H locs C hl hP hS hm) (fun q => kf (Int.not_le.mp (fun r => q ((jm_cl2 hb ha).mpr r))) p e s m args below meth c ls H locs C hl hP hS hm)
theorem jm_if_ge {a off : Int} (tgt : Nat) (hd : decode i.2.1 pc = .ok (.ifCond .ge off, 3)) (ht : (pc : Int) + off = (tgt : Int)) (ha : jm_rg a) (kt : 0 ≤ a → jm_V l g d i tgt lv st mu Q) (kf : a < 0 → jm_V l g d i (pc + 3) lv st mu Q) : jm_V l g d i pc lv (jm_i a :: st) mu Q :=
  fun p e s m args below meth c ls H locs C hl hP hS hm => lv_if_ge C.1.1 C.1.2.1 hd ht (fun q => kt ((jm_cl2 jm_rg0 ha).mp q) p e s m args below meth c ls H locs C hl hP hS hm) (fun q => kf (Int.not_le.mp (fun r => q ((jm_cl2 jm_rg0 ha).mpr r))) p e s m args below meth c ls H locs C hl hP hS hm)
theorem jm_icmp_gt {a b off : Int} (tgt : Nat) (hd : decode i.2.1 pc = .ok (.if_icmp .gt off, 3)) (ht : (pc : Int) + off = (tgt : Int)) (ha : jm_rg a) (hb : jm_rg b) (kt : b < a → jm_V l g d i tgt lv st mu Q) (kf : a ≤ b → jm_V l g d i (pc + 3) lv st mu Q) : jm_V l g d i pc lv (jm_i b :: jm_i a :: st) mu Q :=
  fun p e s m args below meth c ls H locs C hl hP hS hm => lv_icmp_gt C.1.1 C.1.2.1 hd ht (fun q => kt ((jm_cl1 hb ha).mp q) p e s m args below meth c ls H locs C hl hP hS hm) (fun q => kf (Int.not_lt.mp (fun r => q ((jm_cl1 hb ha).mpr r))) p e s m args below meth c ls H locs C hl hP hS hm)
theorem jm_if_gt {a off : Int} (tgt : Nat) (hd : decode i.2.1 pc = .ok (.ifCond .gt off, 3)) (ht : (pc : Int) + off = (tgt : Int)) (ha : jm_rg a) (kt : 0 < a → jm_V l g d i tgt lv st mu Q) (kf : a ≤ 0 → jm_V l g d i (pc + 3) lv st mu Q) : jm_V l g d i pc lv (jm_i a :: st) mu Q :=
  fun p e s m args below meth c ls H locs C hl hP hS hm => lv_if_gt C.1.1 C.1.2.1 hd ht (fun q => kt ((jm_cl1 jm_rg0 ha).mp q) p e s m args below meth c ls H locs C hl hP hS hm) (fun q => kf (Int.not_lt.mp (fun r => q ((jm_cl1 jm_rg0 ha).mpr r))) p e s m args below meth c ls H locs C hl hP hS hm)
theorem jm_icmp_le {a b off : Int} (tgt : Nat) (hd : decode i.2.1 pc = .ok (.if_icmp .le off, 3)) (ht : (pc : Int) + off = (tgt : Int)) (ha : jm_rg a) (hb : jm_rg b) (kt : a ≤ b → jm_V l g d i tgt lv st mu Q) (kf : b < a → jm_V l g d i (pc + 3) lv st mu Q) : jm_V l g d i pc lv (jm_i b :: jm_i a :: st) mu Q :=
  fun p e s m args below meth c ls H locs C hl hP hS hm => lv_icmp_le C.1.1 C.1.2.1 hd ht (fun q => kt ((jm_cl2 ha hb).mp q) p e s m args below meth c ls H locs C hl hP hS hm) (fun q => kf (Int.not_le.mp (fun r => q ((jm_cl2 ha hb).mpr r))) p e s m args below meth c ls H locs C hl hP hS hm)
theorem jm_if_le {a off : Int} (tgt : Nat) (hd : decode i.2.1 pc = .ok (.ifCond .le off, 3)) (ht : (pc : Int) + off = (tgt : Int)) (ha : jm_rg a) (kt : a ≤ 0 → jm_V l g d i tgt lv st mu Q) (kf : 0 < a → jm_V l g d i (pc + 3) lv st mu Q) : jm_V l g d i pc lv (jm_i a :: st) mu Q :=
  fun p e s m args below meth c ls H locs C hl hP hS hm => lv_if_le C.1.1 C.1.2.1 hd ht (fun q => kt ((jm_cl2 ha jm_rg0).mp q) p e s m args below meth c ls H locs C hl hP hS hm) (fun q => kf (Int.not_le.mp (fun r => q ((jm_cl2 ha jm_rg0).mpr r))) p e s m args below meth c ls H locs C hl hP hS hm)
theorem jm_tin {a dflt lo hi off : Int} {offs : Array Int} {len : Nat} (tgt : Nat) (hd : decode i.2.1 pc = .ok (.tableswitch dflt lo hi offs, len)) (ha : jm_rg a) (h1 : lo ≤ a) (h2 : a ≤ hi) (ho : offs[(a - lo).toNat]? = some off) (ht : (pc : Int) + off = (tgt : Int)) (k : jm_V l g d i tgt lv st mu Q) : jm_V l g d i pc lv (jm_i a :: st) mu Q := by
  intro p e s m args below meth c ls H locs C hl hP hS hm
  exact lv_tableIn (x := Int32.ofInt a) C.1.1 C.1.2.1 hd (by rw [jm_ti ha]; omega) (by rw [jm_ti ha]; omega) (by rw [jm_ti ha]; exact ho) ht (k p e s m args below meth c ls H locs C hl hP hS hm)
theorem jm_tout {a dflt lo hi : Int} {offs : Array Int} {len : Nat} (tgt : Nat) (hd : decode i.2.1 pc = .ok (.tableswitch dflt lo hi offs, len)) (ha : jm_rg a) (h : a < lo ∨ hi < a) (ht : (pc : Int) + dflt = (tgt : Int)) (k : jm_V l g d i tgt lv st mu Q) : jm_V l g d i pc lv (jm_i a :: st) mu Q := by
  intro p e s m args below meth c ls H locs C hl hP hS hm
  exact lv_tableOut (x := Int32.ofInt a) C.1.1 C.1.2.1 hd (by rw [jm_ti ha]; exact h) ht (k p e s m args below meth c ls H locs C hl hP hS hm)
theorem jm_lsw {a dflt off : Int} {ps : Array (Int × Int)} {len : Nat} (tgt : Nat) (hd : decode i.2.1 pc = .ok (.lookupswitch dflt ps, len)) (ha : jm_rg a) (hp : (ps.toList.zip (ps.toList.drop 1)).all (fun (a, next) => a.1 < next.1) = true) (ho : Op.lookupswitch.offset ps.toList dflt a = off) (ht : (pc : Int) + off = (tgt : Int)) (k : jm_V l g d i tgt lv st mu Q) : jm_V l g d i pc lv (jm_i a :: st) mu Q := by
  intro p e s m args below meth c ls H locs C hl hP hS hm
  exact lv_lookup (x := Int32.ofInt a) C.1.1 C.1.2.1 hd hp (by rw [jm_ti ha]; exact ho) ht (k p e s m args below meth c ls H locs C hl hP hS hm)
/-! arrays -/
theorem jm_iald {z : Int} {k n : Nat} (hd : decode i.2.1 pc = .ok (.iaload, 1)) (hy : g.1[k]? = some (.inl n)) (hn : n ≤ 2147483648) (h0 : 0 ≤ z) (h1 : z < n) (kk : jm_V l g d i (pc + 1) lv (jm_i (mu.1 k z) :: st) mu Q) : jm_V l g d i pc lv (jm_i z :: .ref k :: st) mu Q := by
  intro p e s m args below meth c ls H locs C hl hP hS hm
  refine va_iald (i := Int32.ofInt z) C.1.1 C.1.2.1 C.2.2.2.1 hP k 0 (jm_wa hy) rfl (jm_in h0 h1 hn) hd ?_
  have h := kk p e s m args below meth c ls H locs C hl hP hS hm
  show W _ _ _ _ _ _ _ _ _ _ _ _ _ _ _ (F0 _ _ _ (.int (Int32.ofInt (mu.1 k ((Int32.ofInt z).toNatClampNeg : Int))) :: _))
  rw [jm_tn h0 (by omega)]
  exact h
theorem jm_lald {z : Int} {k n : Nat} (hd : decode i.2.1 pc = .ok (.laload, 1)) (hy : g.1[k]? = some (.inr (.inl n))) (hn : n ≤ 2147483648) (h0 : 0 ≤ z) (h1 : z < n) (kk : jm_V l g d i (pc + 1) lv (.long (mu.2 k z) :: st) mu Q) : jm_V l g d i pc lv (jm_i z :: .ref k :: st) mu Q := by
  intro p e s m args below meth c ls H locs C hl hP hS hm
  refine va_lald (i := Int32.ofInt z) C.1.1 C.1.2.1 C.2.2.2.1 hP k 1 (jm_wa hy) rfl (jm_in h0 h1 hn) hd ?_
  have h := kk p e s m args below meth c ls H locs C hl hP hS hm
  show W _ _ _ _ _ _ _ _ _ _ _ _ _ _ _ (F0 _ _ _ (.long (mu.2 k ((Int32.ofInt z).toNatClampNeg : Int)) :: _))
  rw [jm_tn h0 (by omega)]
  exact h
theorem jm_aald {z : Int} {k r : Nat} {rs : List Nat} (hd : decode i.2.1 pc = .ok (.aaload, 1)) (hy : g.1[k]? = some (.inr (.inr (.inl rs)))) (hn : rs.length ≤ 2147483648) (h0 : 0 ≤ z) (h1 : z < rs.length) (hr : rs[z.toNat]? = some r) (kk : jm_V l g d i (pc + 1) lv (.ref r :: st) mu Q) : jm_V l g d i pc lv (jm_i z :: .ref k :: st) mu Q := by
  intro p e s m args below meth c ls H locs C hl hP hS hm
  refine va_aldq (i := Int32.ofInt z) C.1.1 C.1.2.1 C.2.2.2.1 hP k 2 (jm_wa hy) rfl (jm_in h0 h1 hn) hd ?_
  have h := kk p e s m args below meth c ls H locs C hl hP hS hm
  have e1 : (Int32.ofInt z).toNatClampNeg = z.toNat := by have := jm_tn h0 (by omega); omega
  have e2 : va_rf ((rs[(Int32.ofInt z).toNatClampNeg]?).map g.2.2.1) = .ref (g.2.2.1 r) := by rw [e1, hr]; rfl
  show W _ _ _ _ _ _ _ _ _ _ _ _ _ _ _ (F0 _ _ _ (va_rf ((rs[(Int32.ofInt z).toNatClampNeg]?).map g.2.2.1) :: _))
  rw [e2]
  exact h
theorem jm_alen {k n : Nat} (hd : decode i.2.1 pc = .ok (.arraylength, 1)) (hy : g.1[k]? = some (.inl n)) (kk : jm_V l g d i (pc + 1) lv (jm_i n :: st) mu Q) : jm_V l g d i pc lv (.ref k :: st) mu Q := by
  intro p e s m args below meth c ls H locs C hl hP hS hm
  refine va_alen (ty := .int) C.1.1 C.1.2.1 C.2.2.2.1 hP k 0 (jm_wa hy) rfl (v := Int32.ofInt n) ?_ hd (kk p e s m args below meth c ls H locs C hl hP hS hm)
  exact (Int32.ofInt_eq_ofNat).symm
theorem jm_mrw {mu : jm_M} {k : Nat} {z x : Int} (hm : jm_mr mu) (hx : jm_rg x) : jm_mr (jm_wr mu k z x) := by
  intro c i
  show jm_rg (if c = k ∧ i = z then x else mu.1 c i)
  split
  · exact hx
  · exact hm c i
theorem jm_iast {z x : Int} {k n : Nat} (hd : decode i.2.1 pc = .ok (.iastore, 1)) (hy : g.1[k]? = some (.inl n)) (hn : n ≤ 2147483648) (h0 : 0 ≤ z) (h1 : z < n) (hx : jm_rg x) (kk : jm_V l g d i (pc + 1) lv st (jm_wr mu k z x) Q) : jm_V l g d i pc lv (jm_i x :: jm_i z :: .ref k :: st) mu Q := by
  intro p e s m args below meth c ls H locs C hl hP hS hm
  refine va_iast (i := Int32.ofInt z) (x := Int32.ofInt x) C.1.1 C.1.2.1 C.2.2.2.1 hP (jm_wd C.2.2.2.2.1) hS k 0 (jm_wa hy) rfl (jm_in h0 h1 hn) hd (fun H1 locs1 hP1 hD1 hS1 => ?_)
  have e1 : (Int32.ofInt z).toNatClampNeg = z.toNat := by have := jm_tn h0 (by omega); omega
  rw [jm_ws1 (mu' := jm_wr mu k z x) hy ?_ (fun j s hj _ => jm_oth j s hj)] at hP1
  · exact kk p e s m args below meth c ls H1 locs1 C hl hP1 hS1 (jm_mrw hm hx)
  · show Sum.inl _ = Sum.inl _
    congr 4
    funext j
    show Int32.ofInt (if k = k ∧ (j : Int) = z then x else mu.1 k j) = if j = (Int32.ofInt z).toNatClampNeg then Int32.ofInt x else Int32.ofInt (mu.1 k j)
    rw [e1]
    by_cases hj : j = z.toNat
    · rw [if_pos hj, if_pos ⟨rfl, by omega⟩]
    · rw [if_neg hj, if_neg (fun q => hj (by have := q.2; omega))]
theorem jm_othl {k : Nat} {z : Int} {x : Int64} (j : Nat) (s : jm_S) (hj : j ≠ k) : jm_el g (jm_wl mu k z x) j s = jm_el g mu j s := by
  have h : ∀ b : Int, (jm_wl mu k z x).2 j b = mu.2 j b := fun b => by simp [jm_wl, hj]
  rcases s with n | n | rs | o
  · rfl
  · simp only [jm_el, h]
  · rfl
  · rfl
theorem jm_last {z : Int} {x : Int64} {k n : Nat} (hd : decode i.2.1 pc = .ok (.lastore, 1)) (hy : g.1[k]? = some (.inr (.inl n))) (hn : n ≤ 2147483648) (h0 : 0 ≤ z) (h1 : z < n) (kk : jm_V l g d i (pc + 1) lv st (jm_wl mu k z x) Q) : jm_V l g d i pc lv (.long x :: jm_i z :: .ref k :: st) mu Q := by
  intro p e s m args below meth c ls H locs C hl hP hS hm
  refine va_last (i := Int32.ofInt z) (x := x) C.1.1 C.1.2.1 C.2.2.2.1 hP (jm_wd C.2.2.2.2.1) hS k 1 (jm_wa hy) rfl (jm_in h0 h1 hn) hd (fun H1 locs1 hP1 hD1 hS1 => ?_)
  have e1 : (Int32.ofInt z).toNatClampNeg = z.toNat := by have := jm_tn h0 (by omega); omega
  rw [jm_ws1 (mu' := jm_wl mu k z x) hy ?_ (fun j s hj _ => jm_othl j s hj)] at hP1
  · exact kk p e s m args below meth c ls H1 locs1 C hl hP1 hS1 hm
  · show Sum.inl _ = Sum.inl _
    congr 5
    funext j
    show (if k = k ∧ (j : Int) = z then x else mu.2 k j) = if j = (Int32.ofInt z).toNatClampNeg then x else mu.2 k j
    rw [e1]
    by_cases hj : j = z.toNat
    · rw [if_pos hj, if_pos ⟨rfl, by omega⟩]
    · rw [if_neg hj, if_neg (fun q => hj (by have := q.2; omega))]
end JR
end
section
section JF
variable {l : Launch} {g : jm_G} {d : Nat} {i : jm_I} {pc : Nat} {lv lv' : List (Nat × Value)} {st : List Value} {mu : jm_M} {Q : Option Value → jm_M → Prop}
/-- the field j of class ci, under the link idx of class own -/
def jm_fl (own : String) (idx ci j : Nat) : Prop := ∃ q : vw_C, jm_cl[ci]? = some q ∧ j < q.2.2 ∧ (∀ w ∈ u_ws q.1 q.2.1 q.2.2, w ∈ jm_T) ∧ Cond.fieldLink own idx (q.2.1 j).1 (q.2.1 j).2.1 (q.2.1 j).2.2.1 ∈ jm_T
theorem jm_fvat {fs : List (Option Nat)} {k j : Nat} {f : Option Nat} (hf : fs[j]? = some f) : (fs.mapIdx (jm_fv g mu k))[j]? = some (jm_fv g mu k j f) := by
  rw [List.getElem?_mapIdx, hf]
  rfl
theorem jm_geti {idx k ci : Nat} {fs : List (Option Nat)} (j : Nat) (hd : decode i.2.1 pc = .ok (.getfield idx, 3)) (hL : jm_fl i.1.cls idx ci j) (hy : g.1[k]? = some (.inr (.inr (.inr (ci, fs))))) (hf : fs[j]? = some none) (kk : jm_V l g d i (pc + 3) lv (jm_i (mu.1 k j) :: st) mu Q) : jm_V l g d i pc lv (.ref k :: st) mu Q := by
  intro p e s m args below meth c ls H locs C hl hP hS hm
  obtain ⟨q, h1, h2, h3, h4⟩ := hL
  exact va_get (v := jm_i (mu.1 k j)) C.1.1 C.1.2.1 C.1.2.2.2.2 (fun w hw => List.mem_cons_of_mem _ (h3 w hw)) C.1.2.2.2.1 C.2.2.2.1 hP k (jm_wa hy) h1 j h2 (C.1.2.2.2.2 _ (List.mem_cons_of_mem _ h4)) (fun _ h => h) (jm_fvat hf) hd (kk p e s m args below meth c ls H locs C hl hP hS hm)
theorem jm_getr {idx k ci r : Nat} {fs : List (Option Nat)} (j : Nat) (hd : decode i.2.1 pc = .ok (.getfield idx, 3)) (hL : jm_fl i.1.cls idx ci j) (hy : g.1[k]? = some (.inr (.inr (.inr (ci, fs))))) (hf : fs[j]? = some (some r)) (kk : jm_V l g d i (pc + 3) lv (.ref r :: st) mu Q) : jm_V l g d i pc lv (.ref k :: st) mu Q := by
  intro p e s m args below meth c ls H locs C hl hP hS hm
  obtain ⟨q, h1, h2, h3, h4⟩ := hL
  exact va_get (v := .ref (g.2.2.1 r)) C.1.1 C.1.2.1 C.1.2.2.2.2 (fun w hw => List.mem_cons_of_mem _ (h3 w hw)) C.1.2.2.2.1 C.2.2.2.1 hP k (jm_wa hy) h1 j h2 (C.1.2.2.2.2 _ (List.mem_cons_of_mem _ h4)) (fun _ h => h) (jm_fvat hf) hd (kk p e s m args below meth c ls H locs C hl hP hS hm)
/-- a class's field types, and names that are apart -/
def jm_ft (ci : Nat) (ty : Nat → FieldType) : Prop := ∀ q : vw_C, jm_cl[ci]? = some q → (∀ k, k < q.2.2 → parseFieldDescriptor (q.2.1 k).2.2.1 = some (ty k)) ∧ ∀ a, a < q.2.2 → ∀ b, b < q.2.2 → a ≠ b → (q.2.1 a).2.1 ≠ (q.2.1 b).2.1
theorem jm_put {x : Int} {idx k ci : Nat} {fs : List (Option Nat)} {ty : Nat → FieldType} (j : Nat) (hd : decode i.2.1 pc = .ok (.putfield idx, 3)) (hL : jm_fl i.1.cls idx ci j) (hT : jm_ft ci ty) (hfin : ∀ q : vw_C, jm_cl[ci]? = some q → (q.2.1 j).2.2.2 = false) (hn : narrow (ty j) (jm_i x) = jm_i x) (hfit : fits (ty j) (jm_i x) = true) (hy : g.1[k]? = some (.inr (.inr (.inr (ci, fs))))) (hf : fs[j]? = some none) (hx : jm_rg x) (kk : jm_V l g d i (pc + 3) lv st (jm_wr mu k j x) Q) : jm_V l g d i pc lv (jm_i x :: .ref k :: st) mu Q := by
  intro p e s m args below meth c ls H locs C hl hP hS hm
  obtain ⟨q, h1, h2, h3, h4⟩ := hL
  obtain ⟨t1, t2⟩ := hT q h1
  have hlt : j < fs.length := (List.getElem?_eq_some_iff.mp hf).1
  refine va_put (v := jm_i x) C.1.1 C.1.2.1 C.1.2.2.2.2 (fun w hw => List.mem_cons_of_mem _ (h3 w hw)) ty t1 t2 C.1.2.2.2.1 C.2.2.2.1 hP (jm_wd C.2.2.2.2.1) hS k (jm_wa hy) h1 j h2 (C.1.2.2.2.2 _ (List.mem_cons_of_mem _ h4)) (fun _ h => h) (hfin q h1) (t1 j h2) hn hfit (by rw [List.length_mapIdx]; exact hlt) hd (fun H1 locs1 hP1 hD1 hS1 => ?_)
  rw [jm_ws1 (mu' := jm_wr mu k j x) hy ?_ (fun a s ha _ => jm_oth a s ha)] at hP1
  · exact kk p e s m args below meth c ls H1 locs1 C hl hP1 hS1 (jm_mrw hm hx)
  · show Sum.inr (ci, fs.mapIdx (jm_fv g (jm_wr mu k j x) k)) = Sum.inr (ci, (fs.mapIdx (jm_fv g mu k)).set j (jm_i x))
    congr 2
    apply List.ext_getElem?
    intro a
    by_cases ha : a = j
    · subst ha
      rw [List.getElem?_set_self (by rw [List.length_mapIdx]; exact hlt), List.getElem?_mapIdx, hf]
      show some (jm_i (if k = k ∧ (a : Int) = a then x else mu.1 k a)) = _
      rw [if_pos ⟨rfl, rfl⟩]
    · rw [List.getElem?_set_ne (fun z => ha z.symm), List.getElem?_mapIdx, List.getElem?_mapIdx]
      cases hfa : fs[a]? with
      | none => rfl
      | some f =>
        cases f with
        | none =>
          show some (jm_i (if k = k ∧ (a : Int) = j then x else mu.1 k a)) = some (jm_i (mu.1 k a))
          rw [if_neg (fun z => ha (by have := z.2; omega))]
        | some r => rfl
theorem jm_nI (x : Int) : narrow .int (jm_i x) = jm_i x := rfl
theorem jm_fI (x : Int) : fits .int (jm_i x) = true := rfl
theorem jm_b01 {x : Int} (h : x = 0 ∨ x = 1) : narrow .boolean (jm_i x) = jm_i x ∧ fits .boolean (jm_i x) = true := by
  rcases h with rfl | rfl <;> exact ⟨by decide, by decide⟩
/-! returns -/
theorem jm_iret {z : Int} (hd : decode i.2.1 pc = .ok (.ireturn, 1)) (hr : i.2.2.2 = some .int) (hq : Q (some (jm_i z)) mu) : jm_V l g d i pc lv [jm_i z] mu Q := by
  intro p e s m args below meth c ls H locs C hl hP hS hm
  exact W.iret (v := Int32.ofInt z) C.1.1 C.1.2.1 (C.2.1.trans hr) (fun t ht hW => ⟨⟨some (jm_i z), mu, rfl, hq, by rw [ht]; exact hP, hm⟩, hS.F ht⟩) hS.2.2 hd C.2.2.1
theorem jm_zret {z : Int} (hd : decode i.2.1 pc = .ok (.ireturn, 1)) (hr : i.2.2.2 = some .boolean) (hz : z = 0 ∨ z = 1) (hq : Q (some (jm_i z)) mu) : jm_V l g d i pc lv [jm_i z] mu Q := by
  intro p e s m args below meth c ls H locs C hl hP hS hm
  exact W.zret (v := Int32.ofInt z) C.1.1 C.1.2.1 (C.2.1.trans hr) (jm_b01 hz).1 (fun t ht hW => ⟨⟨some (jm_i z), mu, rfl, hq, by rw [ht]; exact hP, hm⟩, hS.F ht⟩) hS.2.2 hd C.2.2.1
theorem jm_lret {z : Int64} (hd : decode i.2.1 pc = .ok (.lreturn, 1)) (hr : i.2.2.2 = some .long) (hq : Q (some (.long z)) mu) : jm_V l g d i pc lv [.long z] mu Q := by
  intro p e s m args below meth c ls H locs C hl hP hS hm
  exact W.lret (v := z) C.1.1 C.1.2.1 (C.2.1.trans hr) (fun t ht hW => ⟨⟨some (.long z), mu, rfl, hq, by rw [ht]; exact hP, hm⟩, hS.F ht⟩) hS.2.2 hd C.2.2.1
theorem jm_vret (hd : decode i.2.1 pc = .ok (.return_, 1)) (hr : i.2.2.2 = none) (hq : Q none mu) : jm_V l g d i pc lv [] mu Q := by
  intro p e s m args below meth c ls H locs C hl hP hS hm
  exact W.vret C.1.1 C.1.2.1 (C.2.1.trans hr) (fun t ht hW => ⟨⟨none, mu, rfl, hq, by rw [ht]; exact hP, hm⟩, hS.F ht⟩) hS.2.2 hd C.2.2.1
/-- a method's contract out of its walk -/
theorem jm_enter {As : List Value} (lv : List (Nat × Value)) (hy : plainName i.1.cls = true) (hn : (lg_sl (As.map (jm_tv g))).length ≤ i.2.2.1) (he : lv_args 0 (As.map (jm_tv g)) = lv.map (jm_lq g)) (h : jm_V l g d i 0 lv [] mu Q) : jm_R l g d i As mu Q := by
  refine ⟨d, Nat.le_refl d, ?_⟩
  refine Met.ofW (cc := i.2.1) (maxL := i.2.2.1) (ret := i.2.2.2) hy rfl ?_
  intro p e s m args below meth c s₁ B hml hv
  obtain ⟨rfl, hK, hP, hok, hZ, hm⟩ := hv
  have hts := atoms_spec (ws := jm_ws i) B.pre
  have hown : s.vm.findClass i.1.cls = some m.cls := findClass_of_methodNamed B.named
  have hl := lv_entry (As.map (jm_tv g)) (n := i.2.2.1) hn
  rw [lg_entry_eq]
  rw [he] at hl
  exact h p e s m _ below meth c _ s.heap [] ⟨⟨B.exec, B.bytes, hml, hown, hts⟩, B.returns, B.notSynchronized, hK, hok, hZ⟩ hl hP va_S.rf hm
theorem jm_R.mono {As : List Value} {Q1 Q2 : Option Value → jm_M → Prop} (h : jm_R l g d i As mu Q1) (hq : ∀ r mu1, Q1 r mu1 → Q2 r mu1) : jm_R l g d i As mu Q2 := by
  obtain ⟨d0, h0, h1⟩ := h
  refine ⟨d0, h0, MetFree.mono h1 (fun _ _ h => h) (fun _ _ _ _ _ _ => trivial) (fun a s o s' _ hh => ?_)⟩
  obtain ⟨⟨⟨r, mu1, e1, e2, e3⟩, e4⟩, e5⟩ := hh
  exact ⟨⟨⟨r, mu1, e1, hq r mu1 e2, e3⟩, e4⟩, e5⟩
/-- what the tables say of a call -/
def jm_cw (y : jm_I) (n : Nat) : Prop := Cond.code y.1 y.2.1 y.2.2.1 y.2.2.2 ∈ jm_T ∧ Cond.initialized y.1.cls ∈ jm_T ∧ (y.1.cls ≠ "java/lang/invoke/MethodHandle" ∧ y.1.cls ≠ "java/lang/invoke/VarHandle" ∧ (parseMethodDescriptor y.1.desc).map (fun d => d.parameters.length) = some n) ∧ y.2.2.1 ≤ 21
def jm_mv (own : String) (idx : Nat) (y : jm_I) (n : Nat) : Prop := jm_cw y n ∧ Cond.methodLink own idx y.1 ∈ jm_T ∧ Cond.instanceMethod y.1 ∈ jm_T ∧ Cond.selects y.1.cls y.1 y.1 ∈ jm_T
def jm_ms (own : String) (idx : Nat) (y : jm_I) (n : Nat) : Prop := jm_cw y n ∧ Cond.methodLink own idx y.1 ∈ jm_T ∧ Cond.static y.1 ∈ jm_T
def jm_mn (g : jm_G) (own : String) (idx : Nat) (y : jm_I) (host : String) (n : Nat) : Prop := jm_cw y n ∧ Cond.static y.1 ∈ jm_T ∧ ∀ s : State, g.2.2.2.2 s → va_Nw (.methodLinkNest own idx y.1 host) s
theorem jm_gT {w : Cond} (h : w ∈ jm_T) : (w.onTables && w.keeps) = true ∨ ∃ ty, w = .arrayClass ty := good_of_word (List.mem_filter.mp h).2
theorem jm_gW {y : jm_I} {n : Nat} (h : jm_cw y n) : GoodIn (jm_ws i) (jm_ws y) := by
  intro w hw
  have h1 : w ∈ jm_T := by
    rcases List.mem_cons.mp hw with rfl | h2
    · exact h.1
    · exact h2
  exact ⟨List.mem_cons_of_mem _ h1, jm_gT h1⟩
theorem jm_blind {As : List Value} : FrameBlind (va_Pc As (jm_B g mu)) := by
  intro a U fr mk q
  obtain ⟨q0, qK, qP, qok, qZ, qm⟩ := q
  refine ⟨q0, va_K.moved (u := U) (U := U.calling fr mk a) (Vm.Alike.refl U.vm) qK, qP, qok, ?_, qm⟩
  exact qok.2 U _ qZ (State.WarmedH.refl U) ⟨Nat.le_refl _, fun _ _ _ => rfl⟩
theorem jm_preS {p : Program} {m : MethodId} {c : Code} {s : State} {args : Array Value} {meth : Method} {H : Heap} {locs : List Loc} {As : List Value} (C : jm_C p m c i s args meth g) (hP : va_P g.2.1 jm_cl (jm_w g mu) H) (hS : va_S (jm_A g) s.heap H locs) (hm : jm_mr mu) : PreS s H (va_Pc As (jm_B g mu)) As := by
  refine ⟨jm_blind, fun U hU hW => ⟨rfl, va_K.moved hW.alike C.2.2.2.1, by rw [hU]; exact hP, C.2.2.2.2.1, ?_, hm⟩⟩
  exact C.2.2.2.2.1.2 s U C.2.2.2.2.2 hW (hS.F hU)
theorem jm_back {As : List Value} {y : jm_I} {d0 : Nat} {p : Program} {e : Env} {m : MethodId} {c : Code} {s : State} {args : Array Value} {below : List Frame} {meth : Method} {H : Heap} {locs : List Loc} {ls : Array Slot} {stk st : List Value} {a : Array Value} {Q1 : Option Value → jm_M → Prop} {q : State → Prop}
    (hr : va_Run p l e (jm_rm d) s m args below meth c H locs 0 0 0 0 (F0 m pc ls stk) (st.map (jm_tv g)) (jm_Q g Q1 a) (jm_A g)) (hS : va_S (jm_A g) s.heap H locs)
    (k : ∀ (r : Option Value) (mu1 : jm_M) (H1 : Heap) (locs1 : List Loc), Q1 r mu1 → jm_mr mu1 → va_P g.2.1 jm_cl (jm_w g mu1) H1 → va_S (jm_A g) s.heap H1 locs1 → W p l e (jm_rm d) s m args below meth c H1 locs1 0 0 q (F0 m (pc + 3) ls ((r.toList ++ st).map (jm_tv g)))) : W p l e (jm_rm d) s m args below meth c H locs 0 0 q (F0 m pc ls stk) := by
  intro T hT X
  obtain ⟨v, st₀, t, T', L, h0, X', hL, e1, e2, ⟨⟨r, mu1, hv, hq, hP1, hm1⟩, hz, hk⟩, stp⟩ := hr T hT X
  cases hv
  rw [h0] at hz hk
  obtain ⟨t2, a1, b1⟩ := k r mu1 T'.heap (locs ++ L) hq hm1 (by rw [e1]; exact hP1) ⟨Nat.le_trans hS.1 (by rw [e1]; exact hz), fun q h1 h2 => by rw [e1, hk q (Nat.lt_of_lt_of_le h1 hS.1) h2]; exact hS.2.1 q h1 h2, fun q hq => by
      rcases List.mem_append.mp hq with h | h
      · exact hS.2.2 q h
      · exact hL q h⟩ T' rfl X'
  refine ⟨t2, stp t2 ?_, b1⟩
  have e3 : (r.map (jm_tv g)).toList ++ st.map (jm_tv g) = (r.toList ++ st).map (jm_tv g) := by cases r <;> rfl
  rw [e3]
  exact a1
theorem jm_sum {st : List Value} (h : (st.map fun v => v.category).sum ≤ 8) : ((st.map (jm_tv g)).map fun v => v.category).sum ≤ 8 := by
  have e : ((st.map (jm_tv g)).map fun v => v.category) = st.map fun v => v.category := by
    rw [List.map_map]
    apply List.map_congr_left
    intro v _
    exact jm_cat g v
  rw [e]
  exact h
theorem jm_callv {stk As : List Value} {b ci n idx : Nat} {fs : List (Option Nat)} {Q1 : Option Value → jm_M → Prop} (y : jm_I) (hd : decode i.2.1 pc = .ok (.invokevirtual idx, 3)) (hL : jm_mv i.1.cls idx y n) (hy : g.1[b]? = some (.inr (.inr (.inr (ci, fs))))) (hc : ∃ q : vw_C, jm_cl[ci]? = some q ∧ q.1 = y.1.cls) (hst : stk = As.reverse ++ .ref b :: st) (hn : As.length = n) (hcat : (st.map fun v => v.category).sum ≤ 8)
    (hr : jm_R l g d y (.ref b :: As) mu Q1) (k : ∀ r mu1, Q1 r mu1 → jm_V l g (d + 1) i (pc + 3) lv (r.toList ++ st) mu1 Q) : jm_V l g (d + 1) i pc lv stk mu Q := by
  intro p e s m args below meth c ls H locs C hl hP hS hm
  obtain ⟨d0, hd0, hM⟩ := hr
  obtain ⟨q, hq1, hq2⟩ := hc
  have hT := C.1.2.2.2.2
  have hw : ∀ {w : Cond}, w ∈ jm_T → w.before args s = true := fun h => hT _ (List.mem_cons_of_mem _ h)
  have hrecv := va_recv C.2.2.2.1 hP hq1 (jm_wa (mu := mu) hy)
  have hCB : CallB (jm_rm (d + 1)) s args i.1.cls idx y.1 y.2.1 y.2.2.1 y.2.2.2 (jm_ws y) (jm_rm d0) 0 0 n := callB_of n hT (jm_gW hL.1) rfl rfl rfl (hw hL.1.2.1) (hw hL.2.1) hL.1.2.2.1 ⟨by show d0 + 1 ≤ d + 1; omega, by have := hL.1.2.2.2; show 8 + (y.2.2.1 + 11) + 40 * d0 ≤ 40 * (d + 1); omega⟩
  have hpre := jm_preS (As := (.ref b :: As).map (jm_tv g)) C hP hS hm
  have hrun := va_runV (e := e) (below := below) (meth := meth) (g := F0 m pc ls (stk.map (jm_tv g))) (rest := st.map (jm_tv g)) (locs := locs) (cells := 0) (slots := 0) (As := As.map (jm_tv g)) (b := g.2.2.1 b) (C := y.1.cls) C.1 hM ⟨hCB, hw hL.2.2.1, hw hL.2.2.2⟩ ⟨hpre.1, by rw [← hq2]; exact hrecv, hpre.2⟩ rfl (by rw [List.length_map]; exact hn) hl.1 (by show stk.map (jm_tv g) = _; rw [hst, List.map_append, List.map_reverse]; rfl) (lv_room (jm_sum hcat)) hd ⟨Nat.zero_le _, Nat.zero_le _⟩
  exact jm_back (As := As) (y := y) (d0 := d0) hrun hS (fun r mu1 H1 locs1 hq hm1 hP1 hS1 => k r mu1 hq p e s m args below meth c ls H1 locs1 C hl hP1 hS1 hm1)
theorem jm_calls {stk As : List Value} {n idx : Nat} {Q1 : Option Value → jm_M → Prop} (y : jm_I) (hd : decode i.2.1 pc = .ok (.invokestatic idx, 3)) (hL : jm_ms i.1.cls idx y n) (hst : stk = As.reverse ++ st) (hn : As.length = n) (hcat : (st.map fun v => v.category).sum ≤ 8)
    (hr : jm_R l g d y As mu Q1) (k : ∀ r mu1, Q1 r mu1 → jm_V l g (d + 1) i (pc + 3) lv (r.toList ++ st) mu1 Q) : jm_V l g (d + 1) i pc lv stk mu Q := by
  intro p e s m args below meth c ls H locs C hl hP hS hm
  obtain ⟨d0, hd0, hM⟩ := hr
  have hT := C.1.2.2.2.2
  have hw : ∀ {w : Cond}, w ∈ jm_T → w.before args s = true := fun h => hT _ (List.mem_cons_of_mem _ h)
  have hCB : CallB (jm_rm (d + 1)) s args i.1.cls idx y.1 y.2.1 y.2.2.1 y.2.2.2 (jm_ws y) (jm_rm d0) 0 0 n := callB_of n hT (jm_gW hL.1) rfl rfl rfl (hw hL.1.2.1) (hw hL.2.1) hL.1.2.2.1 ⟨by show d0 + 1 ≤ d + 1; omega, by have := hL.1.2.2.2; show 8 + (y.2.2.1 + 11) + 40 * d0 ≤ 40 * (d + 1); omega⟩
  have hpre := jm_preS (As := As.map (jm_tv g)) C hP hS hm
  have hrun := va_runS (e := e) (below := below) (meth := meth) (g := F0 m pc ls (stk.map (jm_tv g))) (rest := st.map (jm_tv g)) (locs := locs) (cells := 0) (slots := 0) (As := As.map (jm_tv g)) C.1 hM ⟨hCB, hw hL.2.2⟩ hpre rfl (by rw [List.length_map]; exact hn) hl.1 (by show stk.map (jm_tv g) = _; rw [hst, List.map_append, List.map_reverse]) (lv_room (jm_sum hcat)) hd ⟨Nat.zero_le _, Nat.zero_le _⟩
  exact jm_back (As := As) (y := y) (d0 := d0) hrun hS (fun r mu1 H1 locs1 hq hm1 hP1 hS1 => k r mu1 hq p e s m args below meth c ls H1 locs1 C hl hP1 hS1 hm1)
theorem jm_calln {stk As : List Value} {n idx : Nat} {host : String} {Q1 : Option Value → jm_M → Prop} (y : jm_I) (hd : decode i.2.1 pc = .ok (.invokestatic idx, 3)) (hL : jm_mn g i.1.cls idx y host n) (hst : stk = As.reverse ++ st) (hn : As.length = n) (hcat : (st.map fun v => v.category).sum ≤ 8)
    (hr : jm_R l g d y As mu Q1) (k : ∀ r mu1, Q1 r mu1 → jm_V l g (d + 1) i (pc + 3) lv (r.toList ++ st) mu1 Q) : jm_V l g (d + 1) i pc lv stk mu Q := by
  intro p e s m args below meth c ls H locs C hl hP hS hm
  obtain ⟨d0, hd0, hM⟩ := hr
  have hT := C.1.2.2.2.2
  have hw : ∀ {w : Cond}, w ∈ jm_T → w.before args s = true := fun h => hT _ (List.mem_cons_of_mem _ h)
  have hCN : va_CN (jm_rm (d + 1)) s args i.1.cls idx y.1 host y.2.1 y.2.2.1 y.2.2.2 (jm_ws y) (jm_rm d0) 0 0 n := va_cnB n hT (jm_gW hL.1) rfl rfl rfl (hL.2.2 s C.2.2.2.2.2) (hw hL.1.2.1) hL.1.2.2.1 ⟨by show d0 + 1 ≤ d + 1; omega, by have := hL.1.2.2.2; show 8 + (y.2.2.1 + 11) + 40 * d0 ≤ 40 * (d + 1); omega⟩
  have hpre := jm_preS (As := As.map (jm_tv g)) C hP hS hm
  have hrun := va_runSN (e := e) (below := below) (meth := meth) (g := F0 m pc ls (stk.map (jm_tv g))) (rest := st.map (jm_tv g)) (locs := locs) (cells := 0) (slots := 0) (As := As.map (jm_tv g)) C.1 hM ⟨hCN, hw hL.2.1, trivial⟩ hpre rfl (by rw [List.length_map]; exact hn) hl.1 (by show stk.map (jm_tv g) = _; rw [hst, List.map_append, List.map_reverse]) (lv_room (jm_sum hcat)) hd ⟨Nat.zero_le _, Nat.zero_le _⟩
  exact jm_back (As := As) (y := y) (d0 := d0) hrun hS (fun r mu1 H1 locs1 hq hm1 hP1 hS1 => k r mu1 hq p e s m args below meth c ls H1 locs1 C hl hP1 hS1 hm1)
/-! Math and arraycopy -/
def jm_mth (own : String) (idx : Nat) (nm : MethodName) (bc : ByteArray) (n : Nat) : Prop := Cond.methodLink own idx nm ∈ jm_T ∧ Cond.static nm ∈ jm_T ∧ Cond.initialized "java/lang/Math" ∈ jm_T ∧ Cond.code nm bc n (some .int) ∈ jm_T
theorem jm_mmax {a b : Int} {idx : Nat} (hd : decode i.2.1 pc = .ok (.invokestatic idx, 3)) (hL : jm_mth i.1.cls idx Lib.Math.max.name Lib.Math.max.code 2) (ha : jm_rg a) (hb : jm_rg b) (hcat : (st.map fun v => v.category).sum ≤ 8) (k : jm_V l g (d + 1) i (pc + 3) lv (jm_i (max a b) :: st) mu Q) : jm_V l g (d + 1) i pc lv (jm_i b :: jm_i a :: st) mu Q := by
  intro p e s m args below meth c ls H locs C hl hP hS hm
  have hw : ∀ {w : Cond}, w ∈ jm_T → w.before args s = true := fun h => C.1.2.2.2.2 _ (List.mem_cons_of_mem _ h)
  refine va_mmax (x := Int32.ofInt a) (y := Int32.ofInt b) C.1.1 C.1.2.1 (C.1.2.2.1.trans hl.1.symm) C.1.2.2.2.1 (hw hL.1) (hw hL.2.1) (hw hL.2.2.1) (hw hL.2.2.2) (by show 1 ≤ d + 1; omega) (by have := jm_sum (g := g) hcat; show _ + 13 ≤ 40 * (d + 1); omega) (Nat.zero_le _) (Nat.zero_le _) hd ?_
  have e1 : (if Int32.ofInt a < Int32.ofInt b then Int32.ofInt b else Int32.ofInt a) = Int32.ofInt (max a b) := by
    by_cases h : a < b
    · rw [if_pos ((jm_cl1 ha hb).mpr h), Int.max_eq_right (by omega)]
    · rw [if_neg (fun q => h ((jm_cl1 ha hb).mp q)), Int.max_eq_left (by omega)]
  rw [e1]
  exact k p e s m args below meth c ls H locs C hl hP hS hm
theorem jm_mmin {a b : Int} {idx : Nat} (hd : decode i.2.1 pc = .ok (.invokestatic idx, 3)) (hL : jm_mth i.1.cls idx Lib.Math.min.name Lib.Math.min.code 2) (ha : jm_rg a) (hb : jm_rg b) (hcat : (st.map fun v => v.category).sum ≤ 8) (k : jm_V l g (d + 1) i (pc + 3) lv (jm_i (min a b) :: st) mu Q) : jm_V l g (d + 1) i pc lv (jm_i b :: jm_i a :: st) mu Q := by
  intro p e s m args below meth c ls H locs C hl hP hS hm
  have hw : ∀ {w : Cond}, w ∈ jm_T → w.before args s = true := fun h => C.1.2.2.2.2 _ (List.mem_cons_of_mem _ h)
  refine va_mmin (x := Int32.ofInt a) (y := Int32.ofInt b) C.1.1 C.1.2.1 (C.1.2.2.1.trans hl.1.symm) C.1.2.2.2.1 (hw hL.1) (hw hL.2.1) (hw hL.2.2.1) (hw hL.2.2.2) (by show 1 ≤ d + 1; omega) (by have := jm_sum (g := g) hcat; show _ + 13 ≤ 40 * (d + 1); omega) (Nat.zero_le _) (Nat.zero_le _) hd ?_
  have e1 : (if Int32.ofInt b < Int32.ofInt a then Int32.ofInt b else Int32.ofInt a) = Int32.ofInt (min a b) := by
    by_cases h : b < a
    · rw [if_pos ((jm_cl1 hb ha).mpr h), Int.min_eq_right (by omega)]
    · rw [if_neg (fun q => h ((jm_cl1 hb ha).mp q)), Int.min_eq_left (by omega)]
  rw [e1]
  exact k p e s m args below meth c ls H locs C hl hP hS hm
theorem jm_mabs {a : Int} {idx : Nat} (hd : decode i.2.1 pc = .ok (.invokestatic idx, 3)) (hL : jm_mth i.1.cls idx Lib.Math.abs.name Lib.Math.abs.code 1) (ha : jm_rg a) (hcat : (st.map fun v => v.category).sum ≤ 8) (k : jm_V l g (d + 1) i (pc + 3) lv (jm_i (if 0 ≤ a then a else -a) :: st) mu Q) : jm_V l g (d + 1) i pc lv (jm_i a :: st) mu Q := by
  intro p e s m args below meth c ls H locs C hl hP hS hm
  have hw : ∀ {w : Cond}, w ∈ jm_T → w.before args s = true := fun h => C.1.2.2.2.2 _ (List.mem_cons_of_mem _ h)
  refine va_mabs (x := Int32.ofInt a) C.1.1 C.1.2.1 (C.1.2.2.1.trans hl.1.symm) C.1.2.2.2.1 (hw hL.1) (hw hL.2.1) (hw hL.2.2.1) (hw hL.2.2.2) (by show 1 ≤ d + 1; omega) (by have := jm_sum (g := g) hcat; show _ + 13 ≤ 40 * (d + 1); omega) (Nat.zero_le _) (Nat.zero_le _) hd ?_
  have e1 : (if 0 ≤ Int32.ofInt a then Int32.ofInt a else 0 - Int32.ofInt a) = Int32.ofInt (if 0 ≤ a then a else -a) := by
    show (if Int32.ofInt 0 ≤ Int32.ofInt a then Int32.ofInt a else 0 - Int32.ofInt a) = Int32.ofInt (if 0 ≤ a then a else -a)
    by_cases h : 0 ≤ a
    · rw [if_pos ((jm_cl2 jm_rg0 ha).mpr h), if_pos h]
    · rw [if_neg (fun q => h ((jm_cl2 jm_rg0 ha).mp q)), if_neg h, Int32.ofInt_neg, Int32.zero_sub]
  rw [e1]
  exact k p e s m args below meth c ls H locs C hl hP hS hm
def jm_acp (own : String) (idx : Nat) : Prop := Cond.methodLink own idx arraycopyName ∈ jm_T ∧ Cond.native arraycopyName ∈ jm_T ∧ Cond.static arraycopyName ∈ jm_T ∧ Cond.initialized "java/lang/System" ∈ jm_T
theorem jm_othc {a b : Nat} {sp dp n : Int} (j : Nat) (s : jm_S) (hj : j ≠ b) : jm_el g (jm_cp mu a sp b dp n) j s = jm_el g mu j s := by
  have h : ∀ x : Int, (jm_cp mu a sp b dp n).1 j x = mu.1 j x := fun x => by simp [jm_cp, hj]
  rcases s with n | n | rs | o
  · simp only [jm_el, h]
  · rfl
  · rfl
  · have h2 : jm_fv g (jm_cp mu a sp b dp n) j = jm_fv g mu j := by
      funext q f
      cases f with
      | none => simp only [jm_fv, h]
      | some r => rfl
    simp only [jm_el, h2]
theorem jm_copy {a b na nb idx : Nat} {sp dp n : Int} (hd : decode i.2.1 pc = .ok (.invokestatic idx, 3)) (hL : jm_acp i.1.cls idx) (ha : g.1[a]? = some (.inl na)) (hb : g.1[b]? = some (.inl nb)) (hna : na ≤ 2147483647) (hnb : nb ≤ 2147483647) (h1 : 0 ≤ sp) (h2 : 0 ≤ dp) (h3 : 0 ≤ n) (h4 : sp + n ≤ na) (h5 : dp + n ≤ nb) (hcat : (st.map fun v => v.category).sum ≤ 8)
    (k : jm_V l g (d + 1) i (pc + 3) lv st (jm_cp mu a sp b dp n) Q) : jm_V l g (d + 1) i pc lv (jm_i n :: jm_i dp :: .ref b :: jm_i sp :: .ref a :: st) mu Q := by
  intro p e s m args below meth c ls H locs C hl hP hS hm
  have hw : ∀ {w : Cond}, w ∈ jm_T → w.before args s = true := fun h => C.1.2.2.2.2 _ (List.mem_cons_of_mem _ h)
  have nl : ∀ {z : Int}, 0 ≤ z → z ≤ 2147483647 → ¬ Int32.ofInt z < 0 := fun hz hz2 q => by
    have := (jm_cl1 (b := 0) ⟨by omega, by omega⟩ jm_rg0).mp q
    omega
  have t1 := jm_tn h1 (by omega)
  have t2 := jm_tn h2 (by omega)
  have t3 := jm_tn h3 (by omega)
  refine va_copyi (sp := Int32.ofInt sp) (dp := Int32.ofInt dp) (n := Int32.ofInt n) C.1.1 C.1.2.1 (C.1.2.2.1.trans hl.1.symm) C.1.2.2.2.1 (hw hL.1) (hw hL.2.1) (hw hL.2.2.1) (hw hL.2.2.2) C.2.2.2.1 hP (jm_wd C.2.2.2.2.1) hS a b 0 0 (jm_wa ha) (jm_wa hb) rfl rfl rfl (nl h1 (by omega)) (nl h2 (by omega)) (nl h3 (by omega)) (by omega) (by omega) (fun _ _ => rfl) (by show 1 ≤ d + 1; omega) (by have := jm_sum (g := g) hcat; show _ + (nativeFrameWords "java/lang/System" "arraycopy" 5 + 11) ≤ 40 * (d + 1); have e9 : nativeFrameWords "java/lang/System" "arraycopy" 5 ≤ 20 := (by decide +kernel); omega) hd (fun H1 locs1 hP1 hD1 hS1 => ?_)
  rw [jm_ws1 (mu' := jm_cp mu a sp b dp n) hb ?_ (fun j s hj _ => jm_othc j s hj)] at hP1
  · refine k p e s m args below meth c ls H1 locs1 C hl hP1 hS1 (fun c9 i9 => ?_)
    show jm_rg (if c9 = b ∧ dp ≤ i9 ∧ i9 < dp + n then mu.1 a (sp + (i9 - dp)) else mu.1 c9 i9)
    split
    · exact hm _ _
    · exact hm _ _
  · show Sum.inl _ = Sum.inl _
    congr 4
    funext j
    show Int32.ofInt (if b = b ∧ dp ≤ (j : Int) ∧ (j : Int) < dp + n then mu.1 a (sp + (j - dp)) else mu.1 b j) = va_cpy (fun j : Nat => Int32.ofInt (mu.1 a j)) (fun j : Nat => Int32.ofInt (mu.1 b j)) (Int32.ofInt sp).toNatClampNeg (Int32.ofInt dp).toNatClampNeg (Int32.ofInt n).toNatClampNeg j
    unfold va_cpy
    by_cases hj : dp ≤ (j : Int) ∧ (j : Int) < dp + n
    · rw [if_pos ⟨rfl, hj⟩, if_pos ⟨by omega, by omega⟩]
      have e8 : (sp + ((j : Int) - dp)) = (((Int32.ofInt sp).toNatClampNeg + (j - (Int32.ofInt dp).toNatClampNeg) : Nat) : Int) := by omega
      rw [e8]
    · rw [if_neg (fun q => hj q.2), if_neg (fun q => hj ⟨by omega, by omega⟩)]
end JF
end
section
section JZ
variable {l : Launch} {g : jm_G} {d : Nat} {i : jm_I} {pc : Nat} {lv lv' : List (Nat × Value)} {st : List Value} {mu : jm_M} {Q : Option Value → jm_M → Prop}
theorem jm_ifnull {k : Nat} {off : Int} (hd : decode i.2.1 pc = .ok (.ifnull off, 3)) (kk : jm_V l g d i (pc + 3) lv st mu Q) : jm_V l g d i pc lv (.ref k :: st) mu Q :=
  fun p e s m args below meth c ls H locs C hl hP hS hm => lv_ifnull C.1.1 C.1.2.1 hd (kk p e s m args below meth c ls H locs C hl hP hS hm)
theorem jm_ifnonnull {k : Nat} {off : Int} (tgt : Nat) (hd : decode i.2.1 pc = .ok (.ifnonnull off, 3)) (ht : (pc : Int) + off = (tgt : Int)) (kk : jm_V l g d i tgt lv st mu Q) : jm_V l g d i pc lv (.ref k :: st) mu Q :=
  fun p e s m args below meth c ls H locs C hl hP hS hm => lv_ifnonnull C.1.1 C.1.2.1 hd ht (kk p e s m args below meth c ls H locs C hl hP hS hm)
theorem jm_ldcS {idx b : Nat} {tx : String} (hd : decode i.2.1 pc = .ok (.ldc idx, 2)) (hz : ∀ s : State, g.2.2.2.2 s → vk_R i.1.cls idx tx (g.2.2.1 b) s) (kk : jm_V l g d i (pc + 2) lv (.ref b :: st) mu Q) : jm_V l g d i pc lv st mu Q :=
  fun p e s m args below meth c ls H locs C hl hP hS hm => va_ldcS C.1.1 C.1.2.1 C.1.2.2.2.1 (hz s C.2.2.2.2.2) hd (kk p e s m args below meth c ls H locs C hl hP hS hm)
theorem jm_callz {stk As : List Value} {b n idx : Nat} {Q1 : Option Value → jm_M → Prop} (y : jm_I) (hd : decode i.2.1 pc = .ok (.invokevirtual idx, 3)) (hL : jm_mv i.1.cls idx y n) (hz : ∀ (s : State) (H : Heap) (locs : List Loc), g.2.2.2.2 s → va_S (jm_A g) s.heap H locs → ∃ cell : Cell, H[g.2.2.1 b]? = some cell ∧ cell.vm.isStatics = false ∧ s.vm.findClass y.1.cls = some cell.cls) (hst : stk = As.reverse ++ .ref b :: st) (hn : As.length = n) (hcat : (st.map fun v => v.category).sum ≤ 8)
    (hr : jm_R l g d y (.ref b :: As) mu Q1) (k : ∀ r mu1, Q1 r mu1 → jm_V l g (d + 1) i (pc + 3) lv (r.toList ++ st) mu1 Q) : jm_V l g (d + 1) i pc lv stk mu Q := by
  intro p e s m args below meth c ls H locs C hl hP hS hm
  obtain ⟨d0, hd0, hM⟩ := hr
  have hT := C.1.2.2.2.2
  have hw : ∀ {w : Cond}, w ∈ jm_T → w.before args s = true := fun h => hT _ (List.mem_cons_of_mem _ h)
  have hrecv := hz s H locs C.2.2.2.2.2 hS
  have hCB : CallB (jm_rm (d + 1)) s args i.1.cls idx y.1 y.2.1 y.2.2.1 y.2.2.2 (jm_ws y) (jm_rm d0) 0 0 n := callB_of n hT (jm_gW hL.1) rfl rfl rfl (hw hL.1.2.1) (hw hL.2.1) hL.1.2.2.1 ⟨by show d0 + 1 ≤ d + 1; omega, by have := hL.1.2.2.2; show 8 + (y.2.2.1 + 11) + 40 * d0 ≤ 40 * (d + 1); omega⟩
  have hpre := jm_preS (As := (.ref b :: As).map (jm_tv g)) C hP hS hm
  have hrun := va_runV (e := e) (below := below) (meth := meth) (g := F0 m pc ls (stk.map (jm_tv g))) (rest := st.map (jm_tv g)) (locs := locs) (cells := 0) (slots := 0) (As := As.map (jm_tv g)) (b := g.2.2.1 b) (C := y.1.cls) C.1 hM ⟨hCB, hw hL.2.2.1, hw hL.2.2.2⟩ ⟨hpre.1, hrecv, hpre.2⟩ rfl (by rw [List.length_map]; exact hn) hl.1 (by show stk.map (jm_tv g) = _; rw [hst, List.map_append, List.map_reverse]; rfl) (lv_room (jm_sum hcat)) hd ⟨Nat.zero_le _, Nat.zero_le _⟩
  exact jm_back (As := As) (y := y) (d0 := d0) hrun hS (fun r mu1 H1 locs1 hq hm1 hP1 hS1 => k r mu1 hq p e s m args below meth c ls H1 locs1 C hl hP1 hS1 hm1)
theorem jm_rgM {a b : Int} (ha : jm_rg a) (hb : jm_rg b) : jm_rg (max a b) := by
  obtain ⟨a1, a2⟩ := ha
  obtain ⟨b1, b2⟩ := hb
  exact ⟨by omega, by omega⟩
theorem jm_rgm {a b : Int} (ha : jm_rg a) (hb : jm_rg b) : jm_rg (min a b) := by
  obtain ⟨a1, a2⟩ := ha
  obtain ⟨b1, b2⟩ := hb
  exact ⟨by omega, by omega⟩
theorem jm_tw {n : Nat} {w : Cond} (h : tables_1[n]? = some w) (hg : goodWord w = true) : w ∈ jm_T := List.mem_filter.mpr ⟨List.mem_append_right _ (List.mem_of_getElem? h), hg⟩
theorem jm_tp {n : Nat} {q : MethodName × Nat} (h : lw_privs[n]? = some q) : Cond.selects q.1.cls q.1 q.1 ∈ jm_T := List.mem_filter.mpr ⟨List.mem_append_left _ (List.mem_map.mpr ⟨q, List.mem_of_getElem? h, rfl⟩), rfl⟩
theorem jm_up {C : String} {T : u_T} {N : Nat} (ps : List Nat) (h : ps.map (fun n => tables_1[n]?) = (u_ws C T N).map some) (hg : (u_ws C T N).all goodWord = true) : ∀ w ∈ u_ws C T N, w ∈ jm_T := by
  intro w hw
  have h1 : some w ∈ (u_ws C T N).map some := List.mem_map.mpr ⟨w, hw, rfl⟩
  rw [← h] at h1
  obtain ⟨n, -, hn⟩ := List.mem_map.mp h1
  exact jm_tw hn (List.all_eq_true.mp hg w hw)
end JZ
end
section
def jm_LC : List jm_S := [.inr (.inr (.inr (11, [some 1, some 6, some 29, some 35, some 37, some 38, some 41, some 46, some 49, some 56, some 63, some 64, some 87, none, some 93, none, none]))), .inr (.inr (.inr (7, [some 2, none, none, none, some 3, some 4, some 5, none, none]))), .inl 400, .inl 401, .inl 401, .inl 401, .inr (.inr (.inr (8, [none, some 7, some 8, some 9, some 10, none, none, none, none, some 11, some 12, some 15, some 22]))), .inl 8, .inl 8, .inl 8, .inl 48, .inl 12, .inr (.inr (.inr (5, [none, some 13, some 14]))), .inl 24, .inl 168, .inr (.inr (.inr (3, [none, none, some 16, some 17, some 18, some 19, some 20, some 21]))), .inl 400, .inl 16, .inl 16, .inl 16, .inl 16, .inl 64, .inr (.inr (.inr (6, [none, some 23, some 24, some 25, some 26, some 27, some 28, none]))), .inl 60, .inl 60, .inl 60, .inl 60, .inl 4, .inl 4, .inr (.inr (.inr (1, [none, none, some 30, some 31, none, some 32, none, some 33, none, some 34]))), .inl 8, .inl 8, .inl 140, .inl 200, .inl 600, .inr (.inr (.inr (0, [some 6, some 29, some 36]))), .inl 11, .inr (.inr (.inr (2, [some 35, some 6, some 29]))), .inr (.inr (.inr (10, [some 35, some 6, some 29, some 39, some 40]))), .inl 10, .inr (.inl 61), .inr (.inr (.inr (9, [some 35, some 6, some 29, some 42, some 43, some 44, some 45]))), .inl 4, .inl 8, .inl 24, .inl 24, .inr (.inr (.inr (5, [none, some 47, some 48]))), .inl 24, .inl 168, .inr (.inr (.inr (3, [none, none, some 50, some 51, some 52, some 53, some 54, some 55]))), .inl 400, .inl 16, .inl 16, .inl 16, .inl 16, .inl 64, .inr (.inr (.inr (6, [none, some 57, some 58, some 59, some 60, some 61, some 62, none]))), .inl 60, .inl 60, .inl 60, .inl 60, .inl 4, .inl 4, .inr (.inr (.inr (4, [some 1, some 49]))), .inr (.inr (.inr (8, [none, some 65, some 66, some 67, some 68, none, none, none, none, some 69, some 70, some 73, some 80]))), .inl 8, .inl 8, .inl 8, .inl 48, .inl 12, .inr (.inr (.inr (5, [none, some 71, some 72]))), .inl 24, .inl 168, .inr (.inr (.inr (3, [none, none, some 74, some 75, some 76, some 77, some 78, some 79]))), .inl 400, .inl 16, .inl 16, .inl 16, .inl 16, .inl 64, .inr (.inr (.inr (6, [none, some 81, some 82, some 83, some 84, some 85, some 86, none]))), .inl 60, .inl 60, .inl 60, .inl 60, .inl 4, .inl 4, .inr (.inr (.inr (1, [none, none, some 88, some 89, none, some 90, none, some 91, none, some 92]))), .inl 8, .inl 8, .inl 140, .inl 200, .inl 600, .inr (.inr (.inl [94, 100, 106, 112, 118, 124])), .inr (.inr (.inr (1, [none, none, some 95, some 96, none, some 97, none, some 98, none, some 99]))), .inl 8, .inl 8, .inl 140, .inl 200, .inl 600, .inr (.inr (.inr (1, [none, none, some 101, some 102, none, some 103, none, some 104, none, some 105]))), .inl 8, .inl 8, .inl 140, .inl 200, .inl 600, .inr (.inr (.inr (1, [none, none, some 107, some 108, none, some 109, none, some 110, none, some 111]))), .inl 8, .inl 8, .inl 140, .inl 200, .inl 600, .inr (.inr (.inr (1, [none, none, some 113, some 114, none, some 115, none, some 116, none, some 117]))), .inl 8, .inl 8, .inl 140, .inl 200, .inl 600, .inr (.inr (.inr (1, [none, none, some 119, some 120, none, some 121, none, some 122, none, some 123]))), .inl 8, .inl 8, .inl 140, .inl 200, .inl 600, .inr (.inr (.inr (1, [none, none, some 125, some 126, none, some 127, none, some 128, none, some 129]))), .inl 8, .inl 8, .inl 140, .inl 200, .inl 600]
def jm_LR : List jm_S := [.inr (.inr (.inr (12, [none, some 1, some 2, none, none, some 3, some 4, some 5, some 6, none, none, none, some 7, none, none, none, none, none, some 8, some 9, some 10, some 11, some 12, some 13, some 14, some 15, none, none, none, some 16, none, none, none, none, none, none, some 17, some 18, none, none, some 19, some 20, some 21, some 22, some 23, some 24, some 25, some 26, none, none, none, some 27, none, some 28, some 29, none, none, none, some 30]))), .inl 22, .inl 132, .inl 8, .inl 8, .inl 8, .inl 48, .inl 400, .inl 143, .inl 2, .inl 48, .inl 48, .inl 48, .inl 48, .inl 1200, .inl 1200, .inl 40, .inl 384, .inl 800, .inl 480, .inl 4, .inl 4, .inl 11, .inl 420, .inl 120, .inl 200, .inl 600, .inl 10, .inl 12, .inl 24, .inl 2700]
def jm_NW : List Cond := [.methodLinkNest RX7 51 yX11_isWithin "SungEvidence", .methodLinkNest RX4 32 yX11_isWithin "SungEvidence", .methodLinkNest RX6 94 yX11_isWithin "SungEvidence", .methodLinkNest RX8 84 yX11_isFact "SungEvidence", .methodLinkNest RX5 30 yX11_isWithin "SungEvidence", .methodLinkNest RX0 62 yX11_isWithin "SungEvidence", .methodLinkNest RX0 80 yX11_held "SungEvidence", .methodLinkNest RX1 59 yX11_isWithin "SungEvidence"]
def jm_SW : List (Nat × String) := [(55, "motive up down same "), (57, "slip shake weight when or and not nerve hoarse breath bar note room fact value day sung slips "), (59, "call on in cross rest again ")]
/-- the class's world: its cells, the links of nest mates, the string constants -/
def jm_HC (g : jm_G) : Prop := g.1 = jm_LC ∧ (∀ w ∈ jm_NW, ∀ s : State, g.2.2.2.2 s → va_Nw w s) ∧ (∀ (k : Nat) (q : Nat × String), jm_SW[k]? = some q → ∀ s : State, g.2.2.2.2 s → vk_R RX7 q.1 q.2 (g.2.2.1 (1000 + k)) s) ∧ ∀ k, k < 3 → ∀ (s : State) (H : Heap) (locs : List Loc), g.2.2.2.2 s → va_S (jm_A g) s.heap H locs → ∃ cell : Cell, H[g.2.2.1 (1000 + k)]? = some cell ∧ cell.vm.isStatics = false ∧ s.vm.findClass "java/lang/String" = some cell.cls
def jm_HR (g : jm_G) : Prop := g.1 = jm_LR
theorem cC0 {g : jm_G} (hg : jm_HC g) : g.1[0]? = some (.inr (.inr (.inr (11, [some 1, some 6, some 29, some 35, some 37, some 38, some 41, some 46, some 49, some 56, some 63, some 64, some 87, none, some 93, none, none])))) := by rw [hg.1]; rfl
theorem cC1 {g : jm_G} (hg : jm_HC g) : g.1[1]? = some (.inr (.inr (.inr (7, [some 2, none, none, none, some 3, some 4, some 5, none, none])))) := by rw [hg.1]; rfl
theorem cC2 {g : jm_G} (hg : jm_HC g) : g.1[2]? = some (.inl 400) := by rw [hg.1]; rfl
theorem cC3 {g : jm_G} (hg : jm_HC g) : g.1[3]? = some (.inl 401) := by rw [hg.1]; rfl
theorem cC4 {g : jm_G} (hg : jm_HC g) : g.1[4]? = some (.inl 401) := by rw [hg.1]; rfl
theorem cC5 {g : jm_G} (hg : jm_HC g) : g.1[5]? = some (.inl 401) := by rw [hg.1]; rfl
theorem cC6 {g : jm_G} (hg : jm_HC g) : g.1[6]? = some (.inr (.inr (.inr (8, [none, some 7, some 8, some 9, some 10, none, none, none, none, some 11, some 12, some 15, some 22])))) := by rw [hg.1]; rfl
theorem cC7 {g : jm_G} (hg : jm_HC g) : g.1[7]? = some (.inl 8) := by rw [hg.1]; rfl
theorem cC8 {g : jm_G} (hg : jm_HC g) : g.1[8]? = some (.inl 8) := by rw [hg.1]; rfl
theorem cC9 {g : jm_G} (hg : jm_HC g) : g.1[9]? = some (.inl 8) := by rw [hg.1]; rfl
theorem cC10 {g : jm_G} (hg : jm_HC g) : g.1[10]? = some (.inl 48) := by rw [hg.1]; rfl
theorem cC11 {g : jm_G} (hg : jm_HC g) : g.1[11]? = some (.inl 12) := by rw [hg.1]; rfl
theorem cC12 {g : jm_G} (hg : jm_HC g) : g.1[12]? = some (.inr (.inr (.inr (5, [none, some 13, some 14])))) := by rw [hg.1]; rfl
theorem cC13 {g : jm_G} (hg : jm_HC g) : g.1[13]? = some (.inl 24) := by rw [hg.1]; rfl
theorem cC14 {g : jm_G} (hg : jm_HC g) : g.1[14]? = some (.inl 168) := by rw [hg.1]; rfl
theorem cC15 {g : jm_G} (hg : jm_HC g) : g.1[15]? = some (.inr (.inr (.inr (3, [none, none, some 16, some 17, some 18, some 19, some 20, some 21])))) := by rw [hg.1]; rfl
theorem cC16 {g : jm_G} (hg : jm_HC g) : g.1[16]? = some (.inl 400) := by rw [hg.1]; rfl
theorem cC17 {g : jm_G} (hg : jm_HC g) : g.1[17]? = some (.inl 16) := by rw [hg.1]; rfl
theorem cC18 {g : jm_G} (hg : jm_HC g) : g.1[18]? = some (.inl 16) := by rw [hg.1]; rfl
theorem cC19 {g : jm_G} (hg : jm_HC g) : g.1[19]? = some (.inl 16) := by rw [hg.1]; rfl
theorem cC20 {g : jm_G} (hg : jm_HC g) : g.1[20]? = some (.inl 16) := by rw [hg.1]; rfl
theorem cC21 {g : jm_G} (hg : jm_HC g) : g.1[21]? = some (.inl 64) := by rw [hg.1]; rfl
theorem cC22 {g : jm_G} (hg : jm_HC g) : g.1[22]? = some (.inr (.inr (.inr (6, [none, some 23, some 24, some 25, some 26, some 27, some 28, none])))) := by rw [hg.1]; rfl
theorem cC23 {g : jm_G} (hg : jm_HC g) : g.1[23]? = some (.inl 60) := by rw [hg.1]; rfl
theorem cC24 {g : jm_G} (hg : jm_HC g) : g.1[24]? = some (.inl 60) := by rw [hg.1]; rfl
theorem cC25 {g : jm_G} (hg : jm_HC g) : g.1[25]? = some (.inl 60) := by rw [hg.1]; rfl
theorem cC26 {g : jm_G} (hg : jm_HC g) : g.1[26]? = some (.inl 60) := by rw [hg.1]; rfl
theorem cC27 {g : jm_G} (hg : jm_HC g) : g.1[27]? = some (.inl 4) := by rw [hg.1]; rfl
theorem cC28 {g : jm_G} (hg : jm_HC g) : g.1[28]? = some (.inl 4) := by rw [hg.1]; rfl
theorem cC29 {g : jm_G} (hg : jm_HC g) : g.1[29]? = some (.inr (.inr (.inr (1, [none, none, some 30, some 31, none, some 32, none, some 33, none, some 34])))) := by rw [hg.1]; rfl
theorem cC30 {g : jm_G} (hg : jm_HC g) : g.1[30]? = some (.inl 8) := by rw [hg.1]; rfl
theorem cC31 {g : jm_G} (hg : jm_HC g) : g.1[31]? = some (.inl 8) := by rw [hg.1]; rfl
theorem cC32 {g : jm_G} (hg : jm_HC g) : g.1[32]? = some (.inl 140) := by rw [hg.1]; rfl
theorem cC33 {g : jm_G} (hg : jm_HC g) : g.1[33]? = some (.inl 200) := by rw [hg.1]; rfl
theorem cC34 {g : jm_G} (hg : jm_HC g) : g.1[34]? = some (.inl 600) := by rw [hg.1]; rfl
theorem cC35 {g : jm_G} (hg : jm_HC g) : g.1[35]? = some (.inr (.inr (.inr (0, [some 6, some 29, some 36])))) := by rw [hg.1]; rfl
theorem cC36 {g : jm_G} (hg : jm_HC g) : g.1[36]? = some (.inl 11) := by rw [hg.1]; rfl
theorem cC37 {g : jm_G} (hg : jm_HC g) : g.1[37]? = some (.inr (.inr (.inr (2, [some 35, some 6, some 29])))) := by rw [hg.1]; rfl
theorem cC38 {g : jm_G} (hg : jm_HC g) : g.1[38]? = some (.inr (.inr (.inr (10, [some 35, some 6, some 29, some 39, some 40])))) := by rw [hg.1]; rfl
theorem cC39 {g : jm_G} (hg : jm_HC g) : g.1[39]? = some (.inl 10) := by rw [hg.1]; rfl
theorem cC40 {g : jm_G} (hg : jm_HC g) : g.1[40]? = some (.inr (.inl 61)) := by rw [hg.1]; rfl
theorem cC41 {g : jm_G} (hg : jm_HC g) : g.1[41]? = some (.inr (.inr (.inr (9, [some 35, some 6, some 29, some 42, some 43, some 44, some 45])))) := by rw [hg.1]; rfl
theorem cC42 {g : jm_G} (hg : jm_HC g) : g.1[42]? = some (.inl 4) := by rw [hg.1]; rfl
theorem cC43 {g : jm_G} (hg : jm_HC g) : g.1[43]? = some (.inl 8) := by rw [hg.1]; rfl
theorem cC44 {g : jm_G} (hg : jm_HC g) : g.1[44]? = some (.inl 24) := by rw [hg.1]; rfl
theorem cC45 {g : jm_G} (hg : jm_HC g) : g.1[45]? = some (.inl 24) := by rw [hg.1]; rfl
theorem cC46 {g : jm_G} (hg : jm_HC g) : g.1[46]? = some (.inr (.inr (.inr (5, [none, some 47, some 48])))) := by rw [hg.1]; rfl
theorem cC47 {g : jm_G} (hg : jm_HC g) : g.1[47]? = some (.inl 24) := by rw [hg.1]; rfl
theorem cC48 {g : jm_G} (hg : jm_HC g) : g.1[48]? = some (.inl 168) := by rw [hg.1]; rfl
theorem cC49 {g : jm_G} (hg : jm_HC g) : g.1[49]? = some (.inr (.inr (.inr (3, [none, none, some 50, some 51, some 52, some 53, some 54, some 55])))) := by rw [hg.1]; rfl
theorem cC50 {g : jm_G} (hg : jm_HC g) : g.1[50]? = some (.inl 400) := by rw [hg.1]; rfl
theorem cC51 {g : jm_G} (hg : jm_HC g) : g.1[51]? = some (.inl 16) := by rw [hg.1]; rfl
theorem cC52 {g : jm_G} (hg : jm_HC g) : g.1[52]? = some (.inl 16) := by rw [hg.1]; rfl
theorem cC53 {g : jm_G} (hg : jm_HC g) : g.1[53]? = some (.inl 16) := by rw [hg.1]; rfl
theorem cC54 {g : jm_G} (hg : jm_HC g) : g.1[54]? = some (.inl 16) := by rw [hg.1]; rfl
theorem cC55 {g : jm_G} (hg : jm_HC g) : g.1[55]? = some (.inl 64) := by rw [hg.1]; rfl
theorem cC56 {g : jm_G} (hg : jm_HC g) : g.1[56]? = some (.inr (.inr (.inr (6, [none, some 57, some 58, some 59, some 60, some 61, some 62, none])))) := by rw [hg.1]; rfl
theorem cC57 {g : jm_G} (hg : jm_HC g) : g.1[57]? = some (.inl 60) := by rw [hg.1]; rfl
theorem cC58 {g : jm_G} (hg : jm_HC g) : g.1[58]? = some (.inl 60) := by rw [hg.1]; rfl
theorem cC59 {g : jm_G} (hg : jm_HC g) : g.1[59]? = some (.inl 60) := by rw [hg.1]; rfl
theorem cC60 {g : jm_G} (hg : jm_HC g) : g.1[60]? = some (.inl 60) := by rw [hg.1]; rfl
theorem cC61 {g : jm_G} (hg : jm_HC g) : g.1[61]? = some (.inl 4) := by rw [hg.1]; rfl
theorem cC62 {g : jm_G} (hg : jm_HC g) : g.1[62]? = some (.inl 4) := by rw [hg.1]; rfl
theorem cC63 {g : jm_G} (hg : jm_HC g) : g.1[63]? = some (.inr (.inr (.inr (4, [some 1, some 49])))) := by rw [hg.1]; rfl
theorem cC64 {g : jm_G} (hg : jm_HC g) : g.1[64]? = some (.inr (.inr (.inr (8, [none, some 65, some 66, some 67, some 68, none, none, none, none, some 69, some 70, some 73, some 80])))) := by rw [hg.1]; rfl
theorem cC65 {g : jm_G} (hg : jm_HC g) : g.1[65]? = some (.inl 8) := by rw [hg.1]; rfl
theorem cC66 {g : jm_G} (hg : jm_HC g) : g.1[66]? = some (.inl 8) := by rw [hg.1]; rfl
theorem cC67 {g : jm_G} (hg : jm_HC g) : g.1[67]? = some (.inl 8) := by rw [hg.1]; rfl
theorem cC68 {g : jm_G} (hg : jm_HC g) : g.1[68]? = some (.inl 48) := by rw [hg.1]; rfl
theorem cC69 {g : jm_G} (hg : jm_HC g) : g.1[69]? = some (.inl 12) := by rw [hg.1]; rfl
theorem cC70 {g : jm_G} (hg : jm_HC g) : g.1[70]? = some (.inr (.inr (.inr (5, [none, some 71, some 72])))) := by rw [hg.1]; rfl
theorem cC71 {g : jm_G} (hg : jm_HC g) : g.1[71]? = some (.inl 24) := by rw [hg.1]; rfl
theorem cC72 {g : jm_G} (hg : jm_HC g) : g.1[72]? = some (.inl 168) := by rw [hg.1]; rfl
theorem cC73 {g : jm_G} (hg : jm_HC g) : g.1[73]? = some (.inr (.inr (.inr (3, [none, none, some 74, some 75, some 76, some 77, some 78, some 79])))) := by rw [hg.1]; rfl
theorem cC74 {g : jm_G} (hg : jm_HC g) : g.1[74]? = some (.inl 400) := by rw [hg.1]; rfl
theorem cC75 {g : jm_G} (hg : jm_HC g) : g.1[75]? = some (.inl 16) := by rw [hg.1]; rfl
theorem cC76 {g : jm_G} (hg : jm_HC g) : g.1[76]? = some (.inl 16) := by rw [hg.1]; rfl
theorem cC77 {g : jm_G} (hg : jm_HC g) : g.1[77]? = some (.inl 16) := by rw [hg.1]; rfl
theorem cC78 {g : jm_G} (hg : jm_HC g) : g.1[78]? = some (.inl 16) := by rw [hg.1]; rfl
theorem cC79 {g : jm_G} (hg : jm_HC g) : g.1[79]? = some (.inl 64) := by rw [hg.1]; rfl
theorem cC80 {g : jm_G} (hg : jm_HC g) : g.1[80]? = some (.inr (.inr (.inr (6, [none, some 81, some 82, some 83, some 84, some 85, some 86, none])))) := by rw [hg.1]; rfl
theorem cC81 {g : jm_G} (hg : jm_HC g) : g.1[81]? = some (.inl 60) := by rw [hg.1]; rfl
theorem cC82 {g : jm_G} (hg : jm_HC g) : g.1[82]? = some (.inl 60) := by rw [hg.1]; rfl
theorem cC83 {g : jm_G} (hg : jm_HC g) : g.1[83]? = some (.inl 60) := by rw [hg.1]; rfl
theorem cC84 {g : jm_G} (hg : jm_HC g) : g.1[84]? = some (.inl 60) := by rw [hg.1]; rfl
theorem cC85 {g : jm_G} (hg : jm_HC g) : g.1[85]? = some (.inl 4) := by rw [hg.1]; rfl
theorem cC86 {g : jm_G} (hg : jm_HC g) : g.1[86]? = some (.inl 4) := by rw [hg.1]; rfl
theorem cC87 {g : jm_G} (hg : jm_HC g) : g.1[87]? = some (.inr (.inr (.inr (1, [none, none, some 88, some 89, none, some 90, none, some 91, none, some 92])))) := by rw [hg.1]; rfl
theorem cC88 {g : jm_G} (hg : jm_HC g) : g.1[88]? = some (.inl 8) := by rw [hg.1]; rfl
theorem cC89 {g : jm_G} (hg : jm_HC g) : g.1[89]? = some (.inl 8) := by rw [hg.1]; rfl
theorem cC90 {g : jm_G} (hg : jm_HC g) : g.1[90]? = some (.inl 140) := by rw [hg.1]; rfl
theorem cC91 {g : jm_G} (hg : jm_HC g) : g.1[91]? = some (.inl 200) := by rw [hg.1]; rfl
theorem cC92 {g : jm_G} (hg : jm_HC g) : g.1[92]? = some (.inl 600) := by rw [hg.1]; rfl
theorem cC93 {g : jm_G} (hg : jm_HC g) : g.1[93]? = some (.inr (.inr (.inl [94, 100, 106, 112, 118, 124]))) := by rw [hg.1]; rfl
theorem cC94 {g : jm_G} (hg : jm_HC g) : g.1[94]? = some (.inr (.inr (.inr (1, [none, none, some 95, some 96, none, some 97, none, some 98, none, some 99])))) := by rw [hg.1]; rfl
theorem cC95 {g : jm_G} (hg : jm_HC g) : g.1[95]? = some (.inl 8) := by rw [hg.1]; rfl
theorem cC96 {g : jm_G} (hg : jm_HC g) : g.1[96]? = some (.inl 8) := by rw [hg.1]; rfl
theorem cC97 {g : jm_G} (hg : jm_HC g) : g.1[97]? = some (.inl 140) := by rw [hg.1]; rfl
theorem cC98 {g : jm_G} (hg : jm_HC g) : g.1[98]? = some (.inl 200) := by rw [hg.1]; rfl
theorem cC99 {g : jm_G} (hg : jm_HC g) : g.1[99]? = some (.inl 600) := by rw [hg.1]; rfl
theorem cC100 {g : jm_G} (hg : jm_HC g) : g.1[100]? = some (.inr (.inr (.inr (1, [none, none, some 101, some 102, none, some 103, none, some 104, none, some 105])))) := by rw [hg.1]; rfl
theorem cC101 {g : jm_G} (hg : jm_HC g) : g.1[101]? = some (.inl 8) := by rw [hg.1]; rfl
theorem cC102 {g : jm_G} (hg : jm_HC g) : g.1[102]? = some (.inl 8) := by rw [hg.1]; rfl
theorem cC103 {g : jm_G} (hg : jm_HC g) : g.1[103]? = some (.inl 140) := by rw [hg.1]; rfl
theorem cC104 {g : jm_G} (hg : jm_HC g) : g.1[104]? = some (.inl 200) := by rw [hg.1]; rfl
theorem cC105 {g : jm_G} (hg : jm_HC g) : g.1[105]? = some (.inl 600) := by rw [hg.1]; rfl
theorem cC106 {g : jm_G} (hg : jm_HC g) : g.1[106]? = some (.inr (.inr (.inr (1, [none, none, some 107, some 108, none, some 109, none, some 110, none, some 111])))) := by rw [hg.1]; rfl
theorem cC107 {g : jm_G} (hg : jm_HC g) : g.1[107]? = some (.inl 8) := by rw [hg.1]; rfl
theorem cC108 {g : jm_G} (hg : jm_HC g) : g.1[108]? = some (.inl 8) := by rw [hg.1]; rfl
theorem cC109 {g : jm_G} (hg : jm_HC g) : g.1[109]? = some (.inl 140) := by rw [hg.1]; rfl
theorem cC110 {g : jm_G} (hg : jm_HC g) : g.1[110]? = some (.inl 200) := by rw [hg.1]; rfl
theorem cC111 {g : jm_G} (hg : jm_HC g) : g.1[111]? = some (.inl 600) := by rw [hg.1]; rfl
theorem cC112 {g : jm_G} (hg : jm_HC g) : g.1[112]? = some (.inr (.inr (.inr (1, [none, none, some 113, some 114, none, some 115, none, some 116, none, some 117])))) := by rw [hg.1]; rfl
theorem cC113 {g : jm_G} (hg : jm_HC g) : g.1[113]? = some (.inl 8) := by rw [hg.1]; rfl
theorem cC114 {g : jm_G} (hg : jm_HC g) : g.1[114]? = some (.inl 8) := by rw [hg.1]; rfl
theorem cC115 {g : jm_G} (hg : jm_HC g) : g.1[115]? = some (.inl 140) := by rw [hg.1]; rfl
theorem cC116 {g : jm_G} (hg : jm_HC g) : g.1[116]? = some (.inl 200) := by rw [hg.1]; rfl
theorem cC117 {g : jm_G} (hg : jm_HC g) : g.1[117]? = some (.inl 600) := by rw [hg.1]; rfl
theorem cC118 {g : jm_G} (hg : jm_HC g) : g.1[118]? = some (.inr (.inr (.inr (1, [none, none, some 119, some 120, none, some 121, none, some 122, none, some 123])))) := by rw [hg.1]; rfl
theorem cC119 {g : jm_G} (hg : jm_HC g) : g.1[119]? = some (.inl 8) := by rw [hg.1]; rfl
theorem cC120 {g : jm_G} (hg : jm_HC g) : g.1[120]? = some (.inl 8) := by rw [hg.1]; rfl
theorem cC121 {g : jm_G} (hg : jm_HC g) : g.1[121]? = some (.inl 140) := by rw [hg.1]; rfl
theorem cC122 {g : jm_G} (hg : jm_HC g) : g.1[122]? = some (.inl 200) := by rw [hg.1]; rfl
theorem cC123 {g : jm_G} (hg : jm_HC g) : g.1[123]? = some (.inl 600) := by rw [hg.1]; rfl
theorem cC124 {g : jm_G} (hg : jm_HC g) : g.1[124]? = some (.inr (.inr (.inr (1, [none, none, some 125, some 126, none, some 127, none, some 128, none, some 129])))) := by rw [hg.1]; rfl
theorem cC125 {g : jm_G} (hg : jm_HC g) : g.1[125]? = some (.inl 8) := by rw [hg.1]; rfl
theorem cC126 {g : jm_G} (hg : jm_HC g) : g.1[126]? = some (.inl 8) := by rw [hg.1]; rfl
theorem cC127 {g : jm_G} (hg : jm_HC g) : g.1[127]? = some (.inl 140) := by rw [hg.1]; rfl
theorem cC128 {g : jm_G} (hg : jm_HC g) : g.1[128]? = some (.inl 200) := by rw [hg.1]; rfl
theorem cC129 {g : jm_G} (hg : jm_HC g) : g.1[129]? = some (.inl 600) := by rw [hg.1]; rfl
theorem cR0 {g : jm_G} (hg : jm_HR g) : g.1[0]? = some (.inr (.inr (.inr (12, [none, some 1, some 2, none, none, some 3, some 4, some 5, some 6, none, none, none, some 7, none, none, none, none, none, some 8, some 9, some 10, some 11, some 12, some 13, some 14, some 15, none, none, none, some 16, none, none, none, none, none, none, some 17, some 18, none, none, some 19, some 20, some 21, some 22, some 23, some 24, some 25, some 26, none, none, none, some 27, none, some 28, some 29, none, none, none, some 30])))) := by rw [show g.1 = jm_LR from hg]; rfl
theorem cR1 {g : jm_G} (hg : jm_HR g) : g.1[1]? = some (.inl 22) := by rw [show g.1 = jm_LR from hg]; rfl
theorem cR2 {g : jm_G} (hg : jm_HR g) : g.1[2]? = some (.inl 132) := by rw [show g.1 = jm_LR from hg]; rfl
theorem cR3 {g : jm_G} (hg : jm_HR g) : g.1[3]? = some (.inl 8) := by rw [show g.1 = jm_LR from hg]; rfl
theorem cR4 {g : jm_G} (hg : jm_HR g) : g.1[4]? = some (.inl 8) := by rw [show g.1 = jm_LR from hg]; rfl
theorem cR5 {g : jm_G} (hg : jm_HR g) : g.1[5]? = some (.inl 8) := by rw [show g.1 = jm_LR from hg]; rfl
theorem cR6 {g : jm_G} (hg : jm_HR g) : g.1[6]? = some (.inl 48) := by rw [show g.1 = jm_LR from hg]; rfl
theorem cR7 {g : jm_G} (hg : jm_HR g) : g.1[7]? = some (.inl 400) := by rw [show g.1 = jm_LR from hg]; rfl
theorem cR8 {g : jm_G} (hg : jm_HR g) : g.1[8]? = some (.inl 143) := by rw [show g.1 = jm_LR from hg]; rfl
theorem cR9 {g : jm_G} (hg : jm_HR g) : g.1[9]? = some (.inl 2) := by rw [show g.1 = jm_LR from hg]; rfl
theorem cR10 {g : jm_G} (hg : jm_HR g) : g.1[10]? = some (.inl 48) := by rw [show g.1 = jm_LR from hg]; rfl
theorem cR11 {g : jm_G} (hg : jm_HR g) : g.1[11]? = some (.inl 48) := by rw [show g.1 = jm_LR from hg]; rfl
theorem cR12 {g : jm_G} (hg : jm_HR g) : g.1[12]? = some (.inl 48) := by rw [show g.1 = jm_LR from hg]; rfl
theorem cR13 {g : jm_G} (hg : jm_HR g) : g.1[13]? = some (.inl 48) := by rw [show g.1 = jm_LR from hg]; rfl
theorem cR14 {g : jm_G} (hg : jm_HR g) : g.1[14]? = some (.inl 1200) := by rw [show g.1 = jm_LR from hg]; rfl
theorem cR15 {g : jm_G} (hg : jm_HR g) : g.1[15]? = some (.inl 1200) := by rw [show g.1 = jm_LR from hg]; rfl
theorem cR16 {g : jm_G} (hg : jm_HR g) : g.1[16]? = some (.inl 40) := by rw [show g.1 = jm_LR from hg]; rfl
theorem cR17 {g : jm_G} (hg : jm_HR g) : g.1[17]? = some (.inl 384) := by rw [show g.1 = jm_LR from hg]; rfl
theorem cR18 {g : jm_G} (hg : jm_HR g) : g.1[18]? = some (.inl 800) := by rw [show g.1 = jm_LR from hg]; rfl
theorem cR19 {g : jm_G} (hg : jm_HR g) : g.1[19]? = some (.inl 480) := by rw [show g.1 = jm_LR from hg]; rfl
theorem cR20 {g : jm_G} (hg : jm_HR g) : g.1[20]? = some (.inl 4) := by rw [show g.1 = jm_LR from hg]; rfl
theorem cR21 {g : jm_G} (hg : jm_HR g) : g.1[21]? = some (.inl 4) := by rw [show g.1 = jm_LR from hg]; rfl
theorem cR22 {g : jm_G} (hg : jm_HR g) : g.1[22]? = some (.inl 11) := by rw [show g.1 = jm_LR from hg]; rfl
theorem cR23 {g : jm_G} (hg : jm_HR g) : g.1[23]? = some (.inl 420) := by rw [show g.1 = jm_LR from hg]; rfl
theorem cR24 {g : jm_G} (hg : jm_HR g) : g.1[24]? = some (.inl 120) := by rw [show g.1 = jm_LR from hg]; rfl
theorem cR25 {g : jm_G} (hg : jm_HR g) : g.1[25]? = some (.inl 200) := by rw [show g.1 = jm_LR from hg]; rfl
theorem cR26 {g : jm_G} (hg : jm_HR g) : g.1[26]? = some (.inl 600) := by rw [show g.1 = jm_LR from hg]; rfl
theorem cR27 {g : jm_G} (hg : jm_HR g) : g.1[27]? = some (.inl 10) := by rw [show g.1 = jm_LR from hg]; rfl
theorem cR28 {g : jm_G} (hg : jm_HR g) : g.1[28]? = some (.inl 12) := by rw [show g.1 = jm_LR from hg]; rfl
theorem cR29 {g : jm_G} (hg : jm_HR g) : g.1[29]? = some (.inl 24) := by rw [show g.1 = jm_LR from hg]; rfl
theorem cR30 {g : jm_G} (hg : jm_HR g) : g.1[30]? = some (.inl 2700) := by rw [show g.1 = jm_LR from hg]; rfl
theorem nwX7_51 {g : jm_G} (hg : jm_HC g) (s : State) (h : g.2.2.2.2 s) : va_Nw (.methodLinkNest RX7 51 yX11_isWithin "SungEvidence") s := hg.2.1 _ (List.mem_of_getElem? (i := 0) rfl) s h
theorem nwX4_32 {g : jm_G} (hg : jm_HC g) (s : State) (h : g.2.2.2.2 s) : va_Nw (.methodLinkNest RX4 32 yX11_isWithin "SungEvidence") s := hg.2.1 _ (List.mem_of_getElem? (i := 1) rfl) s h
theorem nwX6_94 {g : jm_G} (hg : jm_HC g) (s : State) (h : g.2.2.2.2 s) : va_Nw (.methodLinkNest RX6 94 yX11_isWithin "SungEvidence") s := hg.2.1 _ (List.mem_of_getElem? (i := 2) rfl) s h
theorem nwX8_84 {g : jm_G} (hg : jm_HC g) (s : State) (h : g.2.2.2.2 s) : va_Nw (.methodLinkNest RX8 84 yX11_isFact "SungEvidence") s := hg.2.1 _ (List.mem_of_getElem? (i := 3) rfl) s h
theorem nwX5_30 {g : jm_G} (hg : jm_HC g) (s : State) (h : g.2.2.2.2 s) : va_Nw (.methodLinkNest RX5 30 yX11_isWithin "SungEvidence") s := hg.2.1 _ (List.mem_of_getElem? (i := 4) rfl) s h
theorem nwX0_62 {g : jm_G} (hg : jm_HC g) (s : State) (h : g.2.2.2.2 s) : va_Nw (.methodLinkNest RX0 62 yX11_isWithin "SungEvidence") s := hg.2.1 _ (List.mem_of_getElem? (i := 5) rfl) s h
theorem nwX0_80 {g : jm_G} (hg : jm_HC g) (s : State) (h : g.2.2.2.2 s) : va_Nw (.methodLinkNest RX0 80 yX11_held "SungEvidence") s := hg.2.1 _ (List.mem_of_getElem? (i := 6) rfl) s h
theorem nwX1_59 {g : jm_G} (hg : jm_HC g) (s : State) (h : g.2.2.2.2 s) : va_Nw (.methodLinkNest RX1 59 yX11_isWithin "SungEvidence") s := hg.2.1 _ (List.mem_of_getElem? (i := 7) rfl) s h
theorem uX0 : ∀ w ∈ u_ws RX0 TX0 3, w ∈ jm_T := jm_up [302, 304, 306] (by decide +kernel) (by decide +kernel)
theorem ftX0 : jm_ft 0 tyX0 := fun q h => by cases h; exact ⟨tyX0_ok, nmX0⟩
theorem uX1 : ∀ w ∈ u_ws RX1 TX1 10, w ∈ jm_T := jm_up [266, 268, 270, 272, 274, 276, 278, 280, 282, 284] (by decide +kernel) (by decide +kernel)
theorem ftX1 : jm_ft 1 tyX1 := fun q h => by cases h; exact ⟨tyX1_ok, nmX1⟩
theorem uX2 : ∀ w ∈ u_ws RX2 TX2 3, w ∈ jm_T := jm_up [318, 320, 322] (by decide +kernel) (by decide +kernel)
theorem ftX2 : jm_ft 2 tyX2 := fun q h => by cases h; exact ⟨tyX2_ok, nmX2⟩
theorem uX3 : ∀ w ∈ u_ws RX3 TX3 8, w ∈ jm_T := jm_up [110, 112, 114, 116, 118, 120, 122, 124] (by decide +kernel) (by decide +kernel)
theorem ftX3 : jm_ft 3 tyX3 := fun q h => by cases h; exact ⟨tyX3_ok, nmX3⟩
theorem uX4 : ∀ w ∈ u_ws RX4 TX4 2, w ∈ jm_T := jm_up [390, 392] (by decide +kernel) (by decide +kernel)
theorem ftX4 : jm_ft 4 tyX4 := fun q h => by cases h; exact ⟨tyX4_ok, nmX4⟩
theorem uX5 : ∀ w ∈ u_ws RX5 TX5 3, w ∈ jm_T := jm_up [88, 90, 92] (by decide +kernel) (by decide +kernel)
theorem ftX5 : jm_ft 5 tyX5 := fun q h => by cases h; exact ⟨tyX5_ok, nmX5⟩
theorem uX6 : ∀ w ∈ u_ws RX6 TX6 8, w ∈ jm_T := jm_up [147, 149, 151, 153, 155, 157, 159, 161] (by decide +kernel) (by decide +kernel)
theorem ftX6 : jm_ft 6 tyX6 := fun q h => by cases h; exact ⟨tyX6_ok, nmX6⟩
theorem uX7 : ∀ w ∈ u_ws RX7 TX7 9, w ∈ jm_T := jm_up [48, 50, 52, 54, 56, 58, 60, 62, 64] (by decide +kernel) (by decide +kernel)
theorem ftX7 : jm_ft 7 tyX7 := fun q h => by cases h; exact ⟨tyX7_ok, nmX7⟩
theorem uX8 : ∀ w ∈ u_ws RX8 TX8 13, w ∈ jm_T := jm_up [206, 208, 210, 212, 214, 216, 218, 220, 222, 224, 226, 228, 230] (by decide +kernel) (by decide +kernel)
theorem ftX8 : jm_ft 8 tyX8 := fun q h => by cases h; exact ⟨tyX8_ok, nmX8⟩
theorem uX9 : ∀ w ∈ u_ws RX9 TX9 7, w ∈ jm_T := jm_up [361, 363, 365, 367, 369, 371, 373] (by decide +kernel) (by decide +kernel)
theorem ftX9 : jm_ft 9 tyX9 := fun q h => by cases h; exact ⟨tyX9_ok, nmX9⟩
theorem uX10 : ∀ w ∈ u_ws RX10 TX10 5, w ∈ jm_T := jm_up [336, 338, 340, 342, 344] (by decide +kernel) (by decide +kernel)
theorem ftX10 : jm_ft 10 tyX10 := fun q h => by cases h; exact ⟨tyX10_ok, nmX10⟩
theorem uX11 : ∀ w ∈ u_ws RX11 TX11 17, w ∈ jm_T := jm_up [413, 415, 417, 419, 421, 423, 425, 427, 429, 431, 433, 435, 437, 439, 441, 443, 445] (by decide +kernel) (by decide +kernel)
theorem ftX11 : jm_ft 11 tyX11 := fun q h => by cases h; exact ⟨tyX11_ok, nmX11⟩
theorem uX12 : ∀ w ∈ u_ws RX12 TX12 59, w ∈ jm_T := jm_up [1303, 1305, 1307, 1309, 1311, 1313, 1315, 1317, 1319, 1321, 1323, 1325, 1327, 1329, 1331, 1333, 1335, 1337, 1339, 1341, 1343, 1345, 1347, 1349, 1351, 1353, 1355, 1357, 1359, 1361, 1363, 1365, 1367, 1369, 1371, 1373, 1375, 1377, 1379, 1381, 1383, 1385, 1387, 1389, 1391, 1393, 1395, 1397, 1399, 1401, 1403, 1405, 1407, 1409, 1411, 1413, 1415, 1417, 1419] (by decide +kernel) (by decide +kernel)
theorem ftX12 : jm_ft 12 tyX12 := fun q h => by cases h; exact ⟨tyX12_ok, nmX12⟩
end
section
section JW
def iX0_motiveOf : jm_I := (yX0_motiveOf, cX0_motiveOf, 5, some .int)
def iX0_lowestKey : jm_I := (yX0_lowestKey, cX0_lowestKey, 3, some .int)
def iX0_highestKey : jm_I := (yX0_highestKey, cX0_highestKey, 3, some .int)
def iX0_howManyKeys : jm_I := (yX0_howManyKeys, cX0_howManyKeys, 3, some .int)
def iX0_canSing : jm_I := (yX0_canSing, cX0_canSing, 4, some .boolean)
def iX0_slipOf : jm_I := (yX0_slipOf, cX0_slipOf, 5, some .int)
def iX0_shakeOf : jm_I := (yX0_shakeOf, cX0_shakeOf, 3, some .int)
def iX0_weightOf : jm_I := (yX0_weightOf, cX0_weightOf, 5, some .int)
def iX0_weightOfTestimony : jm_I := (yX0_weightOfTestimony, cX0_weightOfTestimony, 3, some .int)
def iX0_setTerms : jm_I := (yX0_setTerms, cX0_setTerms, 3, none)
def iX1_copyFrom : jm_I := (yX1_copyFrom, cX1_copyFrom, 2, none)
def iX1_draw : jm_I := (yX1_draw, cX1_draw, 2, some .int)
def iX1_isTestimony : jm_I := (yX1_isTestimony, cX1_isTestimony, 2, some .boolean)
def iX1_ofTestimony : jm_I := (yX1_ofTestimony, cX1_ofTestimony, 3, some .int)
def iX1_hasRoom : jm_I := (yX1_hasRoom, cX1_hasRoom, 2, some .boolean)
def iX1_addBar : jm_I := (yX1_addBar, cX1_addBar, 2, none)
def iX1_addTestimony : jm_I := (yX1_addTestimony, cX1_addTestimony, 6, none)
def iX1_barOf : jm_I := (yX1_barOf, cX1_barOf, 4, some .int)
def iX1_sungBy : jm_I := (yX1_sungBy, cX1_sungBy, 4, some .int)
def iX1_howManyHoarse : jm_I := (yX1_howManyHoarse, cX1_howManyHoarse, 4, some .int)
def iX1_strikeOut : jm_I := (yX1_strikeOut, cX1_strikeOut, 2, none)
def iX1_write : jm_I := (yX1_write, cX1_write, 6, none)
def iX2_canBeCalled : jm_I := (yX2_canBeCalled, cX2_canBeCalled, 5, some .boolean)
def iX2_barsOf : jm_I := (yX2_barsOf, cX2_barsOf, 5, some .int)
def iX2_sing : jm_I := (yX2_sing, cX2_sing, 7, some .int)
def iX2_singNotes : jm_I := (yX2_singNotes, cX2_singNotes, 9, some .int)
def iX2_crossExamine : jm_I := (yX2_crossExamine, cX2_crossExamine, 2, none)
def iX2_loseNerve : jm_I := (yX2_loseNerve, cX2_loseNerve, 3, none)
def iX2_restOneDay : jm_I := (yX2_restOneDay, cX2_restOneDay, 2, none)
def iX2_goThrough : jm_I := (yX2_goThrough, cX2_goThrough, 4, some .int)
def iX3_copyFrom : jm_I := (yX3_copyFrom, cX3_copyFrom, 2, none)
def iX3_clear : jm_I := (yX3_clear, cX3_clear, 1, none)
def iX3_addOrder : jm_I := (yX3_addOrder, cX3_addOrder, 3, some .boolean)
def iX3_openLine : jm_I := (yX3_openLine, cX3_openLine, 2, none)
def iX3_openCondition : jm_I := (yX3_openCondition, cX3_openCondition, 1, none)
def iX3_closeLine : jm_I := (yX3_closeLine, cX3_closeLine, 1, none)
def iX3_tell : jm_I := (yX3_tell, cX3_tell, 6, some .int)
def iX3_worth : jm_I := (yX3_worth, cX3_worth, 8, some .int)
def iX3_joined : jm_I := (yX3_joined, cX3_joined, 3, some .int)
def iX4_readLines : jm_I := (yX4_readLines, cX4_readLines, 3, some .boolean)
def iX4_readCondition : jm_I := (yX4_readCondition, cX4_readCondition, 5, some .boolean)
def iX4_readTest : jm_I := (yX4_readTest, cX4_readTest, 4, some .boolean)
def iX4_comparisonOf : jm_I := (yX4_comparisonOf, cX4_comparisonOf, 1, some .int)
def iX4_readSum : jm_I := (yX4_readSum, cX4_readSum, 3, some .boolean)
def iX4_readProduct : jm_I := (yX4_readProduct, cX4_readProduct, 3, some .boolean)
def iX4_readUnit : jm_I := (yX4_readUnit, cX4_readUnit, 2, some .boolean)
def iX5_copyFrom : jm_I := (yX5_copyFrom, cX5_copyFrom, 2, none)
def iX5_stepOf : jm_I := (yX5_stepOf, cX5_stepOf, 4, some .int)
def iX5_rise : jm_I := (yX5_rise, cX5_rise, 5, some .int)
def iX5_fall : jm_I := (yX5_fall, cX5_fall, 5, some .int)
def iX5_readFrom : jm_I := (yX5_readFrom, cX5_readFrom, 3, some .boolean)
def iX5_readLine : jm_I := (yX5_readLine, cX5_readLine, 4, some .boolean)
def iX5_readSteps : jm_I := (yX5_readSteps, cX5_readSteps, 5, some .boolean)
def iX5_readStep : jm_I := (yX5_readStep, cX5_readStep, 3, some .int)
def iX6_copyFrom : jm_I := (yX6_copyFrom, cX6_copyFrom, 2, none)
def iX6_rests : jm_I := (yX6_rests, cX6_rests, 3, some .int)
def iX6_readFrom : jm_I := (yX6_readFrom, cX6_readFrom, 4, some .boolean)
def iX6_readEnd : jm_I := (yX6_readEnd, cX6_readEnd, 2, some .boolean)
def iX6_readDeed : jm_I := (yX6_readDeed, cX6_readDeed, 3, some .boolean)
def iX6_readCall : jm_I := (yX6_readCall, cX6_readCall, 5, some .boolean)
def iX6_readCross : jm_I := (yX6_readCross, cX6_readCross, 3, some .boolean)
def iX6_readAgain : jm_I := (yX6_readAgain, cX6_readAgain, 2, some .boolean)
def iX6_closeAgain : jm_I := (yX6_closeAgain, cX6_closeAgain, 6, some .boolean)
def iX6_copyDeed : jm_I := (yX6_copyDeed, cX6_copyDeed, 3, none)
def iX6_addDeed : jm_I := (yX6_addDeed, cX6_addDeed, 5, none)
def iX7_hasRoom : jm_I := (yX7_hasRoom, cX7_hasRoom, 2, some .boolean)
def iX7_addNumber : jm_I := (yX7_addNumber, cX7_addNumber, 3, none)
def iX7_clearFault : jm_I := (yX7_clearFault, cX7_clearFault, 1, none)
def iX7_refuse : jm_I := (yX7_refuse, cX7_refuse, 2, some .boolean)
def iX7_kind : jm_I := (yX7_kind, cX7_kind, 1, some .int)
def iX7_skip : jm_I := (yX7_skip, cX7_skip, 1, none)
def iX7_take : jm_I := (yX7_take, cX7_take, 2, some .boolean)
def iX7_isNumberWithin : jm_I := (yX7_isNumberWithin, cX7_isNumberWithin, 3, some .boolean)
def iX7_number : jm_I := (yX7_number, cX7_number, 3, some .int)
def iX7_cutIntoTokens : jm_I := (yX7_cutIntoTokens, cX7_cutIntoTokens, 6, none)
def iX7_addToken : jm_I := (yX7_addToken, cX7_addToken, 2, none)
def iX7_sortOf : jm_I := (yX7_sortOf, cX7_sortOf, 1, some .int)
def iX7_kindOf : jm_I := (yX7_kindOf, cX7_kindOf, 5, some .int)
def iX7_wordOf : jm_I := (yX7_wordOf, cX7_wordOf, 6, some .int)
def iX7_isSpelled : jm_I := (yX7_isSpelled, cX7_isSpelled, 7, some .boolean)
def iX8_copyFrom : jm_I := (yX8_copyFrom, cX8_copyFrom, 2, none)
def iX8_isWitness : jm_I := (yX8_isWitness, cX8_isWitness, 2, some .boolean)
def iX8_addWitness : jm_I := (yX8_addWitness, cX8_addWitness, 6, some .int)
def iX8_claimOf : jm_I := (yX8_claimOf, cX8_claimOf, 3, some .int)
def iX8_sounds : jm_I := (yX8_sounds, cX8_sounds, 3, some .boolean)
def iX8_barsSound : jm_I := (yX8_barsSound, cX8_barsSound, 3, some .boolean)
def iX9_weightFor : jm_I := (yX9_weightFor, cX9_weightFor, 3, some .int)
def iX9_weighAll : jm_I := (yX9_weighAll, cX9_weighAll, 4, none)
def iX9_finding : jm_I := (yX9_finding, cX9_finding, 3, some .int)
def iX9_missingFor : jm_I := (yX9_missingFor, cX9_missingFor, 4, some .int)
def iX9_fewestCallers : jm_I := (yX9_fewestCallers, cX9_fewestCallers, 9, some .int)
def iX9_callable : jm_I := (yX9_callable, cX9_callable, 6, some .int)
def iX9_sumOf : jm_I := (yX9_sumOf, cX9_sumOf, 4, some .int)
def iX9_largestChoir : jm_I := (yX9_largestChoir, cX9_largestChoir, 3, some .int)
def iX9_opponentsOf : jm_I := (yX9_opponentsOf, cX9_opponentsOf, 5, some .int)
def iX9_areUnlike : jm_I := (yX9_areUnlike, cX9_areUnlike, 2, some .boolean)
def iX9_agree : jm_I := (yX9_agree, cX9_agree, 3, some .boolean)
def iX9_worldsWith : jm_I := (yX9_worldsWith, cX9_worldsWith, 4, some .int)
def iX9_tellLiars : jm_I := (yX9_tellLiars, cX9_tellLiars, 3, none)
def iX9_countWorlds : jm_I := (yX9_countWorlds, cX9_countWorlds, 7, some .int)
def iX9_sureFacts : jm_I := (yX9_sureFacts, cX9_sureFacts, 4, some .int)
def iX9_factToAsk : jm_I := (yX9_factToAsk, cX9_factToAsk, 4, some .int)
def iX9_mostAlike : jm_I := (yX9_mostAlike, cX9_mostAlike, 4, some .int)
def iX10_likelyWithin : jm_I := (yX10_likelyWithin, cX10_likelyWithin, 8, some .int)
def iX10_addChance : jm_I := (yX10_addChance, cX10_addChance, 3, none)
def iX10_motivesHeard : jm_I := (yX10_motivesHeard, cX10_motivesHeard, 9, some .int)
def iX10_fewestUnlike : jm_I := (yX10_fewestUnlike, cX10_fewestUnlike, 5, some .int)
def iX10_unlikeFrom : jm_I := (yX10_unlikeFrom, cX10_unlikeFrom, 6, some .int)
def iX10_soundingBars : jm_I := (yX10_soundingBars, cX10_soundingBars, 6, some .int)
def iX10_soundingBehind : jm_I := (yX10_soundingBehind, cX10_soundingBehind, 5, some .int)
def iX10_bestKey : jm_I := (yX10_bestKey, cX10_bestKey, 10, some .int)
def iX10_soundingFrom : jm_I := (yX10_soundingFrom, cX10_soundingFrom, 7, some .int)
def iX10_chordOf : jm_I := (yX10_chordOf, cX10_chordOf, 14, some .int)
def iX10_chosen : jm_I := (yX10_chosen, cX10_chosen, 4, some .int)
def iX10_tellSounds : jm_I := (yX10_tellSounds, cX10_tellSounds, 5, none)
def iX10_rangeOf : jm_I := (yX10_rangeOf, cX10_rangeOf, 2, some .long)
def iX10_has : jm_I := (yX10_has, cX10_has, 3, some .boolean)
def iX10_lowestOf : jm_I := (yX10_lowestOf, cX10_lowestOf, 3, some .int)
def iX11_state : jm_I := (yX11_state, cX11_state, 3, some .int)
def iX11_witness : jm_I := (yX11_witness, cX11_witness, 5, some .int)
def iX11_claim : jm_I := (yX11_claim, cX11_claim, 4, some .boolean)
def iX11_set : jm_I := (yX11_set, cX11_set, 5, some .boolean)
def iX11_feed : jm_I := (yX11_feed, cX11_feed, 6, some .int)
def iX11_end : jm_I := (yX11_end, cX11_end, 2, some .boolean)
def iX11_text : jm_I := (yX11_text, cX11_text, 2, some .int)
def iX11_fault : jm_I := (yX11_fault, cX11_fault, 2, some .int)
def iX11_call : jm_I := (yX11_call, cX11_call, 4, some .int)
def iX11_cross : jm_I := (yX11_cross, cX11_cross, 2, some .int)
def iX11_strike : jm_I := (yX11_strike, cX11_strike, 2, some .boolean)
def iX11_days : jm_I := (yX11_days, cX11_days, 3, some .int)
def iX11_trial : jm_I := (yX11_trial, cX11_trial, 1, some .int)
def iX11_of : jm_I := (yX11_of, cX11_of, 3, some .int)
def iX11_testimony : jm_I := (yX11_testimony, cX11_testimony, 3, some .int)
def iX11_bar : jm_I := (yX11_bar, cX11_bar, 2, some .int)
def iX11_motive : jm_I := (yX11_motive, cX11_motive, 4, some .int)
def iX11_book : jm_I := (yX11_book, cX11_book, 3, some .int)
def iX11_keys : jm_I := (yX11_keys, cX11_keys, 6, some .int)
def iX11_fair : jm_I := (yX11_fair, cX11_fair, 6, some .int)
def iX11_heard : jm_I := (yX11_heard, cX11_heard, 2, some .int)
def iX11_read : jm_I := (yX11_read, cX11_read, 3, some .int)
def iX11_duet : jm_I := (yX11_duet, cX11_duet, 3, some .int)
def iX11_best : jm_I := (yX11_best, cX11_best, 6, some .int)
def iX11_canon : jm_I := (yX11_canon, cX11_canon, 3, some .int)
def iX11_weighed : jm_I := (yX11_weighed, cX11_weighed, 3, some .int)
def iX11_found : jm_I := (yX11_found, cX11_found, 2, some .int)
def iX11_calls : jm_I := (yX11_calls, cX11_calls, 5, some .int)
def iX11_choir : jm_I := (yX11_choir, cX11_choir, 3, some .int)
def iX11_worlds : jm_I := (yX11_worlds, cX11_worlds, 3, some .int)
def iX11_chord : jm_I := (yX11_chord, cX11_chord, 8, some .int)
def iX11_undo : jm_I := (yX11_undo, cX11_undo, 1, some .boolean)
def iX11_image : jm_I := (yX11_image, cX11_image, 2, some .boolean)
def iX11_look : jm_I := (yX11_look, cX11_look, 2, some .int)
def iX11_setOfBench : jm_I := (yX11_setOfBench, cX11_setOfBench, 3, some .boolean)
def iX11_setOfWitness : jm_I := (yX11_setOfWitness, cX11_setOfWitness, 4, some .boolean)
def iX11_adoptMotives : jm_I := (yX11_adoptMotives, cX11_adoptMotives, 1, some .int)
def iX11_adoptLaw : jm_I := (yX11_adoptLaw, cX11_adoptLaw, 1, some .int)
def iX11_adoptPlan : jm_I := (yX11_adoptPlan, cX11_adoptPlan, 1, some .int)
def iX11_keepCourt : jm_I := (yX11_keepCourt, cX11_keepCourt, 2, none)
def iX11_forgetDeeds : jm_I := (yX11_forgetDeeds, cX11_forgetDeeds, 1, none)
def iX11_isWithin : jm_I := (yX11_isWithin, cX11_isWithin, 3, some .boolean)
def iX11_isNote : jm_I := (yX11_isNote, cX11_isNote, 1, some .boolean)
def iX11_isFact : jm_I := (yX11_isFact, cX11_isFact, 1, some .boolean)
def iX11_isValue : jm_I := (yX11_isValue, cX11_isValue, 1, some .boolean)
def iX11_held : jm_I := (yX11_held, cX11_held, 2, some .int)
def iX12_isIn : jm_I := (yX12_isIn, cX12_isIn, 4, some .boolean)
def iX12_held : jm_I := (yX12_held, cX12_held, 4, some .int)
def iX12_greater : jm_I := (yX12_greater, cX12_greater, 3, some .int)
def iX12_lesser : jm_I := (yX12_lesser, cX12_lesser, 3, some .int)
def iX12_far : jm_I := (yX12_far, cX12_far, 3, some .int)
def iX12_onesOf : jm_I := (yX12_onesOf, cX12_onesOf, 4, some .int)
def iX12_keepsAhead : jm_I := (yX12_keepsAhead, cX12_keepsAhead, 2, none)
def iX12_undo : jm_I := (yX12_undo, cX12_undo, 2, some .boolean)
def iX12_state : jm_I := (yX12_state, cX12_state, 3, some .int)
def iX12_draw : jm_I := (yX12_draw, cX12_draw, 2, some .int)
def iX12_soundNow : jm_I := (yX12_soundNow, cX12_soundNow, 1, some .int)
def iX12_needNow : jm_I := (yX12_needNow, cX12_needNow, 1, some .int)
def iX12_flatsNow : jm_I := (yX12_flatsNow, cX12_flatsNow, 1, some .int)
def iX12_isWitness : jm_I := (yX12_isWitness, cX12_isWitness, 2, some .boolean)
def iX12_isFact : jm_I := (yX12_isFact, cX12_isFact, 2, some .boolean)
def iX12_nerveOf : jm_I := (yX12_nerveOf, cX12_nerveOf, 2, some .int)
def iX12_nerveBe : jm_I := (yX12_nerveBe, cX12_nerveBe, 3, none)
def iX12_claimOf : jm_I := (yX12_claimOf, cX12_claimOf, 3, some .int)
def iX12_witness : jm_I := (yX12_witness, cX12_witness, 6, some .int)
def iX12_claim : jm_I := (yX12_claim, cX12_claim, 4, some .boolean)
def iX12_canSet : jm_I := (yX12_canSet, cX12_canSet, 4, some .boolean)
def iX12_set : jm_I := (yX12_set, cX12_set, 4, some .boolean)
def iX12_types : jm_I := (yX12_types, cX12_types, 3, none)
def iX12_feed : jm_I := (yX12_feed, cX12_feed, 6, some .int)
def iX12_end : jm_I := (yX12_end, cX12_end, 2, some .boolean)
def iX12_raw : jm_I := (yX12_raw, cX12_raw, 2, some .int)
def iX12_isLetter : jm_I := (yX12_isLetter, cX12_isLetter, 2, some .boolean)
def iX12_isDigit : jm_I := (yX12_isDigit, cX12_isDigit, 2, some .boolean)
def iX12_isMarkSign : jm_I := (yX12_isMarkSign, cX12_isMarkSign, 2, some .boolean)
def iX12_wordAt : jm_I := (yX12_wordAt, cX12_wordAt, 6, some .int)
def iX12_reads : jm_I := (yX12_reads, cX12_reads, 2, none)
def iX12_errs : jm_I := (yX12_errs, cX12_errs, 2, some .int)
def iX12_isWord : jm_I := (yX12_isWord, cX12_isWord, 2, some .boolean)
def iX12_isSign : jm_I := (yX12_isSign, cX12_isSign, 2, some .boolean)
def iX12_emits : jm_I := (yX12_emits, cX12_emits, 3, none)
def iX12_canAsk : jm_I := (yX12_canAsk, cX12_canAsk, 2, some .boolean)
def iX12_readUnit : jm_I := (yX12_readUnit, cX12_readUnit, 2, some .int)
def iX12_readProduct : jm_I := (yX12_readProduct, cX12_readProduct, 2, some .int)
def iX12_readSum : jm_I := (yX12_readSum, cX12_readSum, 2, some .int)
def iX12_readCompared : jm_I := (yX12_readCompared, cX12_readCompared, 2, some .int)
def iX12_waits : jm_I := (yX12_waits, cX12_waits, 2, none)
def iX12_settles : jm_I := (yX12_settles, cX12_settles, 2, none)
def iX12_readAny : jm_I := (yX12_readAny, cX12_readAny, 4, some .int)
def iX12_isLineWord : jm_I := (yX12_isLineWord, cX12_isLineWord, 1, some .boolean)
def iX12_readLaw : jm_I := (yX12_readLaw, cX12_readLaw, 3, some .int)
def iX12_takesLaw : jm_I := (yX12_takesLaw, cX12_takesLaw, 3, none)
def iX12_readNumber : jm_I := (yX12_readNumber, cX12_readNumber, 4, some .int)
def iX12_readMark : jm_I := (yX12_readMark, cX12_readMark, 2, some .int)
def iX12_readTold : jm_I := (yX12_readTold, cX12_readTold, 4, some .int)
def iX12_readStep : jm_I := (yX12_readStep, cX12_readStep, 5, some .int)
def iX12_readMotive : jm_I := (yX12_readMotive, cX12_readMotive, 4, some .int)
def iX12_readMotives : jm_I := (yX12_readMotives, cX12_readMotives, 2, some .int)
def iX12_emitsStep : jm_I := (yX12_emitsStep, cX12_emitsStep, 6, none)
def iX12_readCall : jm_I := (yX12_readCall, cX12_readCall, 4, some .int)
def iX12_readCross : jm_I := (yX12_readCross, cX12_readCross, 2, some .int)
def iX12_readAgain : jm_I := (yX12_readAgain, cX12_readAgain, 2, some .int)
def iX12_readOther : jm_I := (yX12_readOther, cX12_readOther, 2, some .int)
def iX12_readSteps : jm_I := (yX12_readSteps, cX12_readSteps, 2, some .int)
def iX12_laysDeeds : jm_I := (yX12_laysDeeds, cX12_laysDeeds, 6, some .int)
def iX12_readsText : jm_I := (yX12_readsText, cX12_readsText, 2, some .int)
def iX12_takesOther : jm_I := (yX12_takesOther, cX12_takesOther, 4, none)
def iX12_text : jm_I := (yX12_text, cX12_text, 3, some .int)
def iX12_fault : jm_I := (yX12_fault, cX12_fault, 2, some .int)
def iX12_twoOf : jm_I := (yX12_twoOf, cX12_twoOf, 4, some .int)
def iX12_runs : jm_I := (yX12_runs, cX12_runs, 6, some .int)
def iX12_lineOf : jm_I := (yX12_lineOf, cX12_lineOf, 4, some .int)
def iX12_ofTestimony : jm_I := (yX12_ofTestimony, cX12_ofTestimony, 3, some .int)
def iX12_isTestimony : jm_I := (yX12_isTestimony, cX12_isTestimony, 2, some .boolean)
def iX12_isStruck : jm_I := (yX12_isStruck, cX12_isStruck, 2, some .boolean)
def iX12_sungBy : jm_I := (yX12_sungBy, cX12_sungBy, 4, some .int)
def iX12_notes : jm_I := (yX12_notes, cX12_notes, 6, none)
def iX12_asks : jm_I := (yX12_asks, cX12_asks, 5, none)
def iX12_lawTells : jm_I := (yX12_lawTells, cX12_lawTells, 5, some .int)
def iX12_slipOf : jm_I := (yX12_slipOf, cX12_slipOf, 6, some .int)
def iX12_shakeOf : jm_I := (yX12_shakeOf, cX12_shakeOf, 4, some .int)
def iX12_weighOf : jm_I := (yX12_weighOf, cX12_weighOf, 6, some .int)
def iX12_notesOf : jm_I := (yX12_notesOf, cX12_notesOf, 2, some .int)
def iX12_stepOf : jm_I := (yX12_stepOf, cX12_stepOf, 3, some .int)
def iX12_aboveOf : jm_I := (yX12_aboveOf, cX12_aboveOf, 5, some .int)
def iX12_canSing : jm_I := (yX12_canSing, cX12_canSing, 6, some .boolean)
def iX12_motiveOf : jm_I := (yX12_motiveOf, cX12_motiveOf, 3, some .int)
def iX12_isSung : jm_I := (yX12_isSung, cX12_isSung, 4, some .boolean)
def iX12_barsFor : jm_I := (yX12_barsFor, cX12_barsFor, 3, some .int)
def iX12_canCall : jm_I := (yX12_canCall, cX12_canCall, 4, some .boolean)
def iX12_bars : jm_I := (yX12_bars, cX12_bars, 2, none)
def iX12_sings : jm_I := (yX12_sings, cX12_sings, 11, some .int)
def iX12_crosses : jm_I := (yX12_crosses, cX12_crosses, 2, some .int)
def iX12_hoarseMany : jm_I := (yX12_hoarseMany, cX12_hoarseMany, 3, some .int)
def iX12_restsDay : jm_I := (yX12_restsDay, cX12_restsDay, 2, none)
def iX12_call : jm_I := (yX12_call, cX12_call, 4, some .int)
def iX12_cross : jm_I := (yX12_cross, cX12_cross, 2, some .int)
def iX12_strike : jm_I := (yX12_strike, cX12_strike, 2, some .boolean)
def iX12_days : jm_I := (yX12_days, cX12_days, 3, some .int)
def iX12_ofDeed : jm_I := (yX12_ofDeed, cX12_ofDeed, 3, some .int)
def iX12_restsOfTrial : jm_I := (yX12_restsOfTrial, cX12_restsOfTrial, 3, some .int)
def iX12_isDone : jm_I := (yX12_isDone, cX12_isDone, 3, some .boolean)
def iX12_trial : jm_I := (yX12_trial, cX12_trial, 3, some .int)
def iX12_of : jm_I := (yX12_of, cX12_of, 3, some .int)
def iX12_testimony : jm_I := (yX12_testimony, cX12_testimony, 3, some .int)
def iX12_bar : jm_I := (yX12_bar, cX12_bar, 2, some .int)
def iX12_motive : jm_I := (yX12_motive, cX12_motive, 3, some .int)
def iX12_book : jm_I := (yX12_book, cX12_book, 3, some .int)
def iX12_findsKeys : jm_I := (yX12_findsKeys, cX12_findsKeys, 4, none)
def iX12_keys : jm_I := (yX12_keys, cX12_keys, 4, some .int)
def iX12_fair : jm_I := (yX12_fair, cX12_fair, 9, some .int)
def iX12_heard : jm_I := (yX12_heard, cX12_heard, 2, some .int)
def iX12_unlikeTo : jm_I := (yX12_unlikeTo, cX12_unlikeTo, 6, some .int)
def iX12_read : jm_I := (yX12_read, cX12_read, 6, some .int)
def iX12_doSound : jm_I := (yX12_doSound, cX12_doSound, 3, some .boolean)
def iX12_duet : jm_I := (yX12_duet, cX12_duet, 5, some .int)
def iX12_soundsWith : jm_I := (yX12_soundsWith, cX12_soundsWith, 6, some .int)
def iX12_best : jm_I := (yX12_best, cX12_best, 9, some .int)
def iX12_canon : jm_I := (yX12_canon, cX12_canon, 5, some .int)
def iX12_weighedFor : jm_I := (yX12_weighedFor, cX12_weighedFor, 5, some .int)
def iX12_isFoundWith : jm_I := (yX12_isFoundWith, cX12_isFoundWith, 6, some .boolean)
def iX12_weighed : jm_I := (yX12_weighed, cX12_weighed, 3, some .int)
def iX12_found : jm_I := (yX12_found, cX12_found, 3, some .int)
def iX12_singersFor : jm_I := (yX12_singersFor, cX12_singersFor, 5, some .int)
def iX12_calls : jm_I := (yX12_calls, cX12_calls, 9, some .int)
def iX12_doAgree : jm_I := (yX12_doAgree, cX12_doAgree, 4, some .boolean)
def iX12_isChoir : jm_I := (yX12_isChoir, cX12_isChoir, 4, some .boolean)
def iX12_choir : jm_I := (yX12_choir, cX12_choir, 4, some .int)
def iX12_valueIn : jm_I := (yX12_valueIn, cX12_valueIn, 3, some .int)
def iX12_liarsIn : jm_I := (yX12_liarsIn, cX12_liarsIn, 6, some .int)
def iX12_findsWorlds : jm_I := (yX12_findsWorlds, cX12_findsWorlds, 5, some .int)
def iX12_mostIn : jm_I := (yX12_mostIn, cX12_mostIn, 4, some .int)
def iX12_worlds : jm_I := (yX12_worlds, cX12_worlds, 7, some .int)
def iX12_isUnlike : jm_I := (yX12_isUnlike, cX12_isUnlike, 5, some .boolean)
def iX12_areWitnesses : jm_I := (yX12_areWitnesses, cX12_areWitnesses, 5, some .boolean)
def iX12_chord : jm_I := (yX12_chord, cX12_chord, 12, some .int)
def iX12_keeps : jm_I := (yX12_keeps, cX12_keeps, 2, some .int)
def iX12_keepsLaw : jm_I := (yX12_keepsLaw, cX12_keepsLaw, 2, none)
def iX12_keepsTold : jm_I := (yX12_keepsTold, cX12_keepsTold, 2, none)
def iX12_image : jm_I := (yX12_image, cX12_image, 3, some .boolean)
def iX12_look : jm_I := (yX12_look, cX12_look, 2, some .int)
def iJ0_charAt_5068e : jm_I := (yJ0_charAt_5068e, cJ0_charAt_5068e, 2, some .char)
def iJ0_length_8abf5 : jm_I := (yJ0_length_8abf5, cJ0_length_8abf5, 1, some .int)
def iJ13_bitCount_95d88 : jm_I := (yJ13_bitCount_95d88, cJ13_bitCount_95d88, 2, some .int)
def iJ6_bitCount_0f7a4 : jm_I := (yJ6_bitCount_0f7a4, cJ6_bitCount_0f7a4, 1, some .int)
theorem cwX0_motiveOf : jm_cw iX0_motiveOf 2 := ⟨jm_tw (n := 776) (by decide +kernel) rfl, jm_tw (n := 8) (by decide +kernel) rfl, ⟨by decide +kernel, by decide +kernel, by decide +kernel⟩, by decide⟩
theorem vwX0_motiveOf : Cond.instanceMethod iX0_motiveOf.1 ∈ jm_T ∧ Cond.selects iX0_motiveOf.1.cls iX0_motiveOf.1 iX0_motiveOf.1 ∈ jm_T := ⟨jm_tw (n := 774) (by decide +kernel) rfl, jm_tw (n := 775) (by decide +kernel) rfl⟩
theorem cwX0_lowestKey : jm_cw iX0_lowestKey 2 := ⟨jm_tw (n := 790) (by decide +kernel) rfl, jm_tw (n := 8) (by decide +kernel) rfl, ⟨by decide +kernel, by decide +kernel, by decide +kernel⟩, by decide⟩
theorem vwX0_lowestKey : Cond.instanceMethod iX0_lowestKey.1 ∈ jm_T ∧ Cond.selects iX0_lowestKey.1.cls iX0_lowestKey.1 iX0_lowestKey.1 ∈ jm_T := ⟨jm_tw (n := 788) (by decide +kernel) rfl, jm_tw (n := 789) (by decide +kernel) rfl⟩
theorem cwX0_highestKey : jm_cw iX0_highestKey 2 := ⟨jm_tw (n := 806) (by decide +kernel) rfl, jm_tw (n := 8) (by decide +kernel) rfl, ⟨by decide +kernel, by decide +kernel, by decide +kernel⟩, by decide⟩
theorem vwX0_highestKey : Cond.instanceMethod iX0_highestKey.1 ∈ jm_T ∧ Cond.selects iX0_highestKey.1.cls iX0_highestKey.1 iX0_highestKey.1 ∈ jm_T := ⟨jm_tw (n := 804) (by decide +kernel) rfl, jm_tw (n := 805) (by decide +kernel) rfl⟩
theorem cwX0_howManyKeys : jm_cw iX0_howManyKeys 2 := ⟨jm_tw (n := 991) (by decide +kernel) rfl, jm_tw (n := 8) (by decide +kernel) rfl, ⟨by decide +kernel, by decide +kernel, by decide +kernel⟩, by decide⟩
theorem vwX0_howManyKeys : Cond.instanceMethod iX0_howManyKeys.1 ∈ jm_T ∧ Cond.selects iX0_howManyKeys.1.cls iX0_howManyKeys.1 iX0_howManyKeys.1 ∈ jm_T := ⟨jm_tw (n := 989) (by decide +kernel) rfl, jm_tw (n := 990) (by decide +kernel) rfl⟩
theorem cwX0_canSing : jm_cw iX0_canSing 3 := ⟨jm_tw (n := 786) (by decide +kernel) rfl, jm_tw (n := 8) (by decide +kernel) rfl, ⟨by decide +kernel, by decide +kernel, by decide +kernel⟩, by decide⟩
theorem vwX0_canSing : Cond.instanceMethod iX0_canSing.1 ∈ jm_T ∧ Cond.selects iX0_canSing.1.cls iX0_canSing.1 iX0_canSing.1 ∈ jm_T := ⟨jm_tw (n := 784) (by decide +kernel) rfl, jm_tw (n := 785) (by decide +kernel) rfl⟩
theorem cwX0_slipOf : jm_cw iX0_slipOf 4 := ⟨jm_tw (n := 853) (by decide +kernel) rfl, jm_tw (n := 8) (by decide +kernel) rfl, ⟨by decide +kernel, by decide +kernel, by decide +kernel⟩, by decide⟩
theorem vwX0_slipOf : Cond.instanceMethod iX0_slipOf.1 ∈ jm_T ∧ Cond.selects iX0_slipOf.1.cls iX0_slipOf.1 iX0_slipOf.1 ∈ jm_T := ⟨jm_tw (n := 851) (by decide +kernel) rfl, jm_tw (n := 852) (by decide +kernel) rfl⟩
theorem cwX0_shakeOf : jm_cw iX0_shakeOf 2 := ⟨jm_tw (n := 885) (by decide +kernel) rfl, jm_tw (n := 8) (by decide +kernel) rfl, ⟨by decide +kernel, by decide +kernel, by decide +kernel⟩, by decide⟩
theorem vwX0_shakeOf : Cond.instanceMethod iX0_shakeOf.1 ∈ jm_T ∧ Cond.selects iX0_shakeOf.1.cls iX0_shakeOf.1 iX0_shakeOf.1 ∈ jm_T := ⟨jm_tw (n := 883) (by decide +kernel) rfl, jm_tw (n := 884) (by decide +kernel) rfl⟩
theorem cwX0_weightOf : jm_cw iX0_weightOf 3 := ⟨jm_tw (n := 969) (by decide +kernel) rfl, jm_tw (n := 8) (by decide +kernel) rfl, ⟨by decide +kernel, by decide +kernel, by decide +kernel⟩, by decide⟩
theorem vwX0_weightOf : Cond.instanceMethod iX0_weightOf.1 ∈ jm_T ∧ Cond.selects iX0_weightOf.1.cls iX0_weightOf.1 iX0_weightOf.1 ∈ jm_T := ⟨jm_tw (n := 967) (by decide +kernel) rfl, jm_tw (n := 968) (by decide +kernel) rfl⟩
theorem cwX0_weightOfTestimony : jm_cw iX0_weightOfTestimony 1 := ⟨jm_tw (n := 964) (by decide +kernel) rfl, jm_tw (n := 8) (by decide +kernel) rfl, ⟨by decide +kernel, by decide +kernel, by decide +kernel⟩, by decide⟩
theorem vwX0_weightOfTestimony : Cond.instanceMethod iX0_weightOfTestimony.1 ∈ jm_T ∧ Cond.selects iX0_weightOfTestimony.1.cls iX0_weightOfTestimony.1 iX0_weightOfTestimony.1 ∈ jm_T := ⟨jm_tw (n := 962) (by decide +kernel) rfl, jm_tw (n := 963) (by decide +kernel) rfl⟩
theorem cwX0_setTerms : jm_cw iX0_setTerms 2 := ⟨jm_tw (n := 857) (by decide +kernel) rfl, jm_tw (n := 8) (by decide +kernel) rfl, ⟨by decide +kernel, by decide +kernel, by decide +kernel⟩, by decide⟩
theorem vwX0_setTerms : Cond.instanceMethod iX0_setTerms.1 ∈ jm_T ∧ Cond.selects iX0_setTerms.1.cls iX0_setTerms.1 iX0_setTerms.1 ∈ jm_T := ⟨jm_tw (n := 856) (by decide +kernel) rfl, jm_tp (n := 28) (q := (yX0_setTerms, _)) (by rfl)⟩
theorem cwX1_copyFrom : jm_cw iX1_copyFrom 1 := ⟨jm_tw (n := 827) (by decide +kernel) rfl, jm_tw (n := 7) (by decide +kernel) rfl, ⟨by decide +kernel, by decide +kernel, by decide +kernel⟩, by decide⟩
theorem vwX1_copyFrom : Cond.instanceMethod iX1_copyFrom.1 ∈ jm_T ∧ Cond.selects iX1_copyFrom.1.cls iX1_copyFrom.1 iX1_copyFrom.1 ∈ jm_T := ⟨jm_tw (n := 825) (by decide +kernel) rfl, jm_tw (n := 826) (by decide +kernel) rfl⟩
theorem cwX1_draw : jm_cw iX1_draw 1 := ⟨jm_tw (n := 847) (by decide +kernel) rfl, jm_tw (n := 7) (by decide +kernel) rfl, ⟨by decide +kernel, by decide +kernel, by decide +kernel⟩, by decide⟩
theorem vwX1_draw : Cond.instanceMethod iX1_draw.1 ∈ jm_T ∧ Cond.selects iX1_draw.1.cls iX1_draw.1 iX1_draw.1 ∈ jm_T := ⟨jm_tw (n := 845) (by decide +kernel) rfl, jm_tw (n := 846) (by decide +kernel) rfl⟩
theorem cwX1_isTestimony : jm_cw iX1_isTestimony 1 := ⟨jm_tw (n := 914) (by decide +kernel) rfl, jm_tw (n := 7) (by decide +kernel) rfl, ⟨by decide +kernel, by decide +kernel, by decide +kernel⟩, by decide⟩
theorem vwX1_isTestimony : Cond.instanceMethod iX1_isTestimony.1 ∈ jm_T ∧ Cond.selects iX1_isTestimony.1.cls iX1_isTestimony.1 iX1_isTestimony.1 ∈ jm_T := ⟨jm_tw (n := 912) (by decide +kernel) rfl, jm_tw (n := 913) (by decide +kernel) rfl⟩
theorem cwX1_ofTestimony : jm_cw iX1_ofTestimony 2 := ⟨jm_tw (n := 865) (by decide +kernel) rfl, jm_tw (n := 7) (by decide +kernel) rfl, ⟨by decide +kernel, by decide +kernel, by decide +kernel⟩, by decide⟩
theorem vwX1_ofTestimony : Cond.instanceMethod iX1_ofTestimony.1 ∈ jm_T ∧ Cond.selects iX1_ofTestimony.1.cls iX1_ofTestimony.1 iX1_ofTestimony.1 ∈ jm_T := ⟨jm_tw (n := 863) (by decide +kernel) rfl, jm_tw (n := 864) (by decide +kernel) rfl⟩
theorem cwX1_hasRoom : jm_cw iX1_hasRoom 1 := ⟨jm_tw (n := 819) (by decide +kernel) rfl, jm_tw (n := 7) (by decide +kernel) rfl, ⟨by decide +kernel, by decide +kernel, by decide +kernel⟩, by decide⟩
theorem vwX1_hasRoom : Cond.instanceMethod iX1_hasRoom.1 ∈ jm_T ∧ Cond.selects iX1_hasRoom.1.cls iX1_hasRoom.1 iX1_hasRoom.1 ∈ jm_T := ⟨jm_tw (n := 817) (by decide +kernel) rfl, jm_tw (n := 818) (by decide +kernel) rfl⟩
theorem cwX1_addBar : jm_cw iX1_addBar 1 := ⟨jm_tw (n := 843) (by decide +kernel) rfl, jm_tw (n := 7) (by decide +kernel) rfl, ⟨by decide +kernel, by decide +kernel, by decide +kernel⟩, by decide⟩
theorem vwX1_addBar : Cond.instanceMethod iX1_addBar.1 ∈ jm_T ∧ Cond.selects iX1_addBar.1.cls iX1_addBar.1 iX1_addBar.1 ∈ jm_T := ⟨jm_tw (n := 841) (by decide +kernel) rfl, jm_tw (n := 842) (by decide +kernel) rfl⟩
theorem cwX1_addTestimony : jm_cw iX1_addTestimony 4 := ⟨jm_tw (n := 894) (by decide +kernel) rfl, jm_tw (n := 7) (by decide +kernel) rfl, ⟨by decide +kernel, by decide +kernel, by decide +kernel⟩, by decide⟩
theorem vwX1_addTestimony : Cond.instanceMethod iX1_addTestimony.1 ∈ jm_T ∧ Cond.selects iX1_addTestimony.1.cls iX1_addTestimony.1 iX1_addTestimony.1 ∈ jm_T := ⟨jm_tw (n := 892) (by decide +kernel) rfl, jm_tw (n := 893) (by decide +kernel) rfl⟩
theorem cwX1_barOf : jm_cw iX1_barOf 2 := ⟨jm_tw (n := 1046) (by decide +kernel) rfl, jm_tw (n := 7) (by decide +kernel) rfl, ⟨by decide +kernel, by decide +kernel, by decide +kernel⟩, by decide⟩
theorem vwX1_barOf : Cond.instanceMethod iX1_barOf.1 ∈ jm_T ∧ Cond.selects iX1_barOf.1.cls iX1_barOf.1 iX1_barOf.1 ∈ jm_T := ⟨jm_tw (n := 1044) (by decide +kernel) rfl, jm_tw (n := 1045) (by decide +kernel) rfl⟩
theorem cwX1_sungBy : jm_cw iX1_sungBy 1 := ⟨jm_tw (n := 861) (by decide +kernel) rfl, jm_tw (n := 7) (by decide +kernel) rfl, ⟨by decide +kernel, by decide +kernel, by decide +kernel⟩, by decide⟩
theorem vwX1_sungBy : Cond.instanceMethod iX1_sungBy.1 ∈ jm_T ∧ Cond.selects iX1_sungBy.1.cls iX1_sungBy.1 iX1_sungBy.1 ∈ jm_T := ⟨jm_tw (n := 859) (by decide +kernel) rfl, jm_tw (n := 860) (by decide +kernel) rfl⟩
theorem cwX1_howManyHoarse : jm_cw iX1_howManyHoarse 1 := ⟨jm_tw (n := 933) (by decide +kernel) rfl, jm_tw (n := 7) (by decide +kernel) rfl, ⟨by decide +kernel, by decide +kernel, by decide +kernel⟩, by decide⟩
theorem vwX1_howManyHoarse : Cond.instanceMethod iX1_howManyHoarse.1 ∈ jm_T ∧ Cond.selects iX1_howManyHoarse.1.cls iX1_howManyHoarse.1 iX1_howManyHoarse.1 ∈ jm_T := ⟨jm_tw (n := 931) (by decide +kernel) rfl, jm_tw (n := 932) (by decide +kernel) rfl⟩
theorem cwX1_strikeOut : jm_cw iX1_strikeOut 1 := ⟨jm_tw (n := 919) (by decide +kernel) rfl, jm_tw (n := 7) (by decide +kernel) rfl, ⟨by decide +kernel, by decide +kernel, by decide +kernel⟩, by decide⟩
theorem vwX1_strikeOut : Cond.instanceMethod iX1_strikeOut.1 ∈ jm_T ∧ Cond.selects iX1_strikeOut.1.cls iX1_strikeOut.1 iX1_strikeOut.1 ∈ jm_T := ⟨jm_tw (n := 917) (by decide +kernel) rfl, jm_tw (n := 918) (by decide +kernel) rfl⟩
theorem cwX1_write : jm_cw iX1_write 4 := ⟨jm_tw (n := 898) (by decide +kernel) rfl, jm_tw (n := 7) (by decide +kernel) rfl, ⟨by decide +kernel, by decide +kernel, by decide +kernel⟩, by decide⟩
theorem vwX1_write : Cond.instanceMethod iX1_write.1 ∈ jm_T ∧ Cond.selects iX1_write.1.cls iX1_write.1 iX1_write.1 ∈ jm_T := ⟨jm_tw (n := 896) (by decide +kernel) rfl, jm_tw (n := 897) (by decide +kernel) rfl⟩
theorem cwX2_canBeCalled : jm_cw iX2_canBeCalled 3 := ⟨jm_tw (n := 772) (by decide +kernel) rfl, jm_tw (n := 9) (by decide +kernel) rfl, ⟨by decide +kernel, by decide +kernel, by decide +kernel⟩, by decide⟩
theorem vwX2_canBeCalled : Cond.instanceMethod iX2_canBeCalled.1 ∈ jm_T ∧ Cond.selects iX2_canBeCalled.1.cls iX2_canBeCalled.1 iX2_canBeCalled.1 ∈ jm_T := ⟨jm_tw (n := 770) (by decide +kernel) rfl, jm_tw (n := 771) (by decide +kernel) rfl⟩
theorem cwX2_barsOf : jm_cw iX2_barsOf 2 := ⟨jm_tw (n := 815) (by decide +kernel) rfl, jm_tw (n := 9) (by decide +kernel) rfl, ⟨by decide +kernel, by decide +kernel, by decide +kernel⟩, by decide⟩
theorem vwX2_barsOf : Cond.instanceMethod iX2_barsOf.1 ∈ jm_T ∧ Cond.selects iX2_barsOf.1.cls iX2_barsOf.1 iX2_barsOf.1 ∈ jm_T := ⟨jm_tw (n := 814) (by decide +kernel) rfl, jm_tp (n := 25) (q := (yX2_barsOf, _)) (by rfl)⟩
theorem cwX2_sing : jm_cw iX2_sing 3 := ⟨jm_tw (n := 835) (by decide +kernel) rfl, jm_tw (n := 9) (by decide +kernel) rfl, ⟨by decide +kernel, by decide +kernel, by decide +kernel⟩, by decide⟩
theorem vwX2_sing : Cond.instanceMethod iX2_sing.1 ∈ jm_T ∧ Cond.selects iX2_sing.1.cls iX2_sing.1 iX2_sing.1 ∈ jm_T := ⟨jm_tw (n := 833) (by decide +kernel) rfl, jm_tw (n := 834) (by decide +kernel) rfl⟩
theorem cwX2_singNotes : jm_cw iX2_singNotes 3 := ⟨jm_tw (n := 839) (by decide +kernel) rfl, jm_tw (n := 9) (by decide +kernel) rfl, ⟨by decide +kernel, by decide +kernel, by decide +kernel⟩, by decide⟩
theorem vwX2_singNotes : Cond.instanceMethod iX2_singNotes.1 ∈ jm_T ∧ Cond.selects iX2_singNotes.1.cls iX2_singNotes.1 iX2_singNotes.1 ∈ jm_T := ⟨jm_tw (n := 838) (by decide +kernel) rfl, jm_tp (n := 27) (q := (yX2_singNotes, _)) (by rfl)⟩
theorem cwX2_crossExamine : jm_cw iX2_crossExamine 1 := ⟨jm_tw (n := 906) (by decide +kernel) rfl, jm_tw (n := 9) (by decide +kernel) rfl, ⟨by decide +kernel, by decide +kernel, by decide +kernel⟩, by decide⟩
theorem vwX2_crossExamine : Cond.instanceMethod iX2_crossExamine.1 ∈ jm_T ∧ Cond.selects iX2_crossExamine.1.cls iX2_crossExamine.1 iX2_crossExamine.1 ∈ jm_T := ⟨jm_tw (n := 904) (by decide +kernel) rfl, jm_tw (n := 905) (by decide +kernel) rfl⟩
theorem cwX2_loseNerve : jm_cw iX2_loseNerve 2 := ⟨jm_tw (n := 889) (by decide +kernel) rfl, jm_tw (n := 9) (by decide +kernel) rfl, ⟨by decide +kernel, by decide +kernel, by decide +kernel⟩, by decide⟩
theorem vwX2_loseNerve : Cond.instanceMethod iX2_loseNerve.1 ∈ jm_T ∧ Cond.selects iX2_loseNerve.1.cls iX2_loseNerve.1 iX2_loseNerve.1 ∈ jm_T := ⟨jm_tw (n := 888) (by decide +kernel) rfl, jm_tp (n := 30) (q := (yX2_loseNerve, _)) (by rfl)⟩
theorem cwX2_restOneDay : jm_cw iX2_restOneDay 0 := ⟨jm_tw (n := 928) (by decide +kernel) rfl, jm_tw (n := 9) (by decide +kernel) rfl, ⟨by decide +kernel, by decide +kernel, by decide +kernel⟩, by decide⟩
theorem vwX2_restOneDay : Cond.instanceMethod iX2_restOneDay.1 ∈ jm_T ∧ Cond.selects iX2_restOneDay.1.cls iX2_restOneDay.1 iX2_restOneDay.1 ∈ jm_T := ⟨jm_tw (n := 926) (by decide +kernel) rfl, jm_tw (n := 927) (by decide +kernel) rfl⟩
theorem cwX2_goThrough : jm_cw iX2_goThrough 1 := ⟨jm_tw (n := 945) (by decide +kernel) rfl, jm_tw (n := 9) (by decide +kernel) rfl, ⟨by decide +kernel, by decide +kernel, by decide +kernel⟩, by decide⟩
theorem vwX2_goThrough : Cond.instanceMethod iX2_goThrough.1 ∈ jm_T ∧ Cond.selects iX2_goThrough.1.cls iX2_goThrough.1 iX2_goThrough.1 ∈ jm_T := ⟨jm_tw (n := 943) (by decide +kernel) rfl, jm_tw (n := 944) (by decide +kernel) rfl⟩
theorem cwX3_copyFrom : jm_cw iX3_copyFrom 1 := ⟨jm_tw (n := 706) (by decide +kernel) rfl, jm_tw (n := 5) (by decide +kernel) rfl, ⟨by decide +kernel, by decide +kernel, by decide +kernel⟩, by decide⟩
theorem vwX3_copyFrom : Cond.instanceMethod iX3_copyFrom.1 ∈ jm_T ∧ Cond.selects iX3_copyFrom.1.cls iX3_copyFrom.1 iX3_copyFrom.1 ∈ jm_T := ⟨jm_tw (n := 704) (by decide +kernel) rfl, jm_tw (n := 705) (by decide +kernel) rfl⟩
theorem cwX3_clear : jm_cw iX3_clear 0 := ⟨jm_tw (n := 652) (by decide +kernel) rfl, jm_tw (n := 5) (by decide +kernel) rfl, ⟨by decide +kernel, by decide +kernel, by decide +kernel⟩, by decide⟩
theorem vwX3_clear : Cond.instanceMethod iX3_clear.1 ∈ jm_T ∧ Cond.selects iX3_clear.1.cls iX3_clear.1 iX3_clear.1 ∈ jm_T := ⟨jm_tw (n := 650) (by decide +kernel) rfl, jm_tw (n := 651) (by decide +kernel) rfl⟩
theorem cwX3_addOrder : jm_cw iX3_addOrder 2 := ⟨jm_tw (n := 677) (by decide +kernel) rfl, jm_tw (n := 5) (by decide +kernel) rfl, ⟨by decide +kernel, by decide +kernel, by decide +kernel⟩, by decide⟩
theorem vwX3_addOrder : Cond.instanceMethod iX3_addOrder.1 ∈ jm_T ∧ Cond.selects iX3_addOrder.1.cls iX3_addOrder.1 iX3_addOrder.1 ∈ jm_T := ⟨jm_tw (n := 675) (by decide +kernel) rfl, jm_tw (n := 676) (by decide +kernel) rfl⟩
theorem cwX3_openLine : jm_cw iX3_openLine 1 := ⟨jm_tw (n := 660) (by decide +kernel) rfl, jm_tw (n := 5) (by decide +kernel) rfl, ⟨by decide +kernel, by decide +kernel, by decide +kernel⟩, by decide⟩
theorem vwX3_openLine : Cond.instanceMethod iX3_openLine.1 ∈ jm_T ∧ Cond.selects iX3_openLine.1.cls iX3_openLine.1 iX3_openLine.1 ∈ jm_T := ⟨jm_tw (n := 658) (by decide +kernel) rfl, jm_tw (n := 659) (by decide +kernel) rfl⟩
theorem cwX3_openCondition : jm_cw iX3_openCondition 0 := ⟨jm_tw (n := 682) (by decide +kernel) rfl, jm_tw (n := 5) (by decide +kernel) rfl, ⟨by decide +kernel, by decide +kernel, by decide +kernel⟩, by decide⟩
theorem vwX3_openCondition : Cond.instanceMethod iX3_openCondition.1 ∈ jm_T ∧ Cond.selects iX3_openCondition.1.cls iX3_openCondition.1 iX3_openCondition.1 ∈ jm_T := ⟨jm_tw (n := 680) (by decide +kernel) rfl, jm_tw (n := 681) (by decide +kernel) rfl⟩
theorem cwX3_closeLine : jm_cw iX3_closeLine 0 := ⟨jm_tw (n := 698) (by decide +kernel) rfl, jm_tw (n := 5) (by decide +kernel) rfl, ⟨by decide +kernel, by decide +kernel, by decide +kernel⟩, by decide⟩
theorem vwX3_closeLine : Cond.instanceMethod iX3_closeLine.1 ∈ jm_T ∧ Cond.selects iX3_closeLine.1.cls iX3_closeLine.1 iX3_closeLine.1 ∈ jm_T := ⟨jm_tw (n := 696) (by decide +kernel) rfl, jm_tw (n := 697) (by decide +kernel) rfl⟩
theorem cwX3_tell : jm_cw iX3_tell 3 := ⟨jm_tw (n := 869) (by decide +kernel) rfl, jm_tw (n := 5) (by decide +kernel) rfl, ⟨by decide +kernel, by decide +kernel, by decide +kernel⟩, by decide⟩
theorem vwX3_tell : Cond.instanceMethod iX3_tell.1 ∈ jm_T ∧ Cond.selects iX3_tell.1.cls iX3_tell.1 iX3_tell.1 ∈ jm_T := ⟨jm_tw (n := 867) (by decide +kernel) rfl, jm_tw (n := 868) (by decide +kernel) rfl⟩
theorem cwX3_worth : jm_cw iX3_worth 3 := ⟨jm_tw (n := 873) (by decide +kernel) rfl, jm_tw (n := 5) (by decide +kernel) rfl, ⟨by decide +kernel, by decide +kernel, by decide +kernel⟩, by decide⟩
theorem vwX3_worth : Cond.instanceMethod iX3_worth.1 ∈ jm_T ∧ Cond.selects iX3_worth.1.cls iX3_worth.1 iX3_worth.1 ∈ jm_T := ⟨jm_tw (n := 872) (by decide +kernel) rfl, jm_tp (n := 29) (q := (yX3_worth, _)) (by rfl)⟩
theorem cwX3_joined : jm_cw iX3_joined 3 := ⟨jm_tw (n := 876) (by decide +kernel) rfl, jm_tw (n := 5) (by decide +kernel) rfl, ⟨by decide +kernel, by decide +kernel, by decide +kernel⟩, by decide⟩
theorem vwX3_joined : Cond.static iX3_joined.1 ∈ jm_T := jm_tw (n := 875) (by decide +kernel) rfl
theorem cwX4_readLines : jm_cw iX4_readLines 0 := ⟨jm_tw (n := 648) (by decide +kernel) rfl, jm_tw (n := 12) (by decide +kernel) rfl, ⟨by decide +kernel, by decide +kernel, by decide +kernel⟩, by decide⟩
theorem vwX4_readLines : Cond.instanceMethod iX4_readLines.1 ∈ jm_T ∧ Cond.selects iX4_readLines.1.cls iX4_readLines.1 iX4_readLines.1 ∈ jm_T := ⟨jm_tw (n := 646) (by decide +kernel) rfl, jm_tw (n := 647) (by decide +kernel) rfl⟩
theorem cwX4_readCondition : jm_cw iX4_readCondition 1 := ⟨jm_tw (n := 686) (by decide +kernel) rfl, jm_tw (n := 12) (by decide +kernel) rfl, ⟨by decide +kernel, by decide +kernel, by decide +kernel⟩, by decide⟩
theorem vwX4_readCondition : Cond.instanceMethod iX4_readCondition.1 ∈ jm_T ∧ Cond.selects iX4_readCondition.1.cls iX4_readCondition.1 iX4_readCondition.1 ∈ jm_T := ⟨jm_tw (n := 685) (by decide +kernel) rfl, jm_tp (n := 13) (q := (yX4_readCondition, _)) (by rfl)⟩
theorem cwX4_readTest : jm_cw iX4_readTest 1 := ⟨jm_tw (n := 690) (by decide +kernel) rfl, jm_tw (n := 12) (by decide +kernel) rfl, ⟨by decide +kernel, by decide +kernel, by decide +kernel⟩, by decide⟩
theorem vwX4_readTest : Cond.instanceMethod iX4_readTest.1 ∈ jm_T ∧ Cond.selects iX4_readTest.1.cls iX4_readTest.1 iX4_readTest.1 ∈ jm_T := ⟨jm_tw (n := 689) (by decide +kernel) rfl, jm_tp (n := 14) (q := (yX4_readTest, _)) (by rfl)⟩
theorem cwX4_comparisonOf : jm_cw iX4_comparisonOf 1 := ⟨jm_tw (n := 694) (by decide +kernel) rfl, jm_tw (n := 12) (by decide +kernel) rfl, ⟨by decide +kernel, by decide +kernel, by decide +kernel⟩, by decide⟩
theorem vwX4_comparisonOf : Cond.static iX4_comparisonOf.1 ∈ jm_T := jm_tw (n := 693) (by decide +kernel) rfl
theorem cwX4_readSum : jm_cw iX4_readSum 0 := ⟨jm_tw (n := 664) (by decide +kernel) rfl, jm_tw (n := 12) (by decide +kernel) rfl, ⟨by decide +kernel, by decide +kernel, by decide +kernel⟩, by decide⟩
theorem vwX4_readSum : Cond.instanceMethod iX4_readSum.1 ∈ jm_T ∧ Cond.selects iX4_readSum.1.cls iX4_readSum.1 iX4_readSum.1 ∈ jm_T := ⟨jm_tw (n := 663) (by decide +kernel) rfl, jm_tp (n := 10) (q := (yX4_readSum, _)) (by rfl)⟩
theorem cwX4_readProduct : jm_cw iX4_readProduct 0 := ⟨jm_tw (n := 668) (by decide +kernel) rfl, jm_tw (n := 12) (by decide +kernel) rfl, ⟨by decide +kernel, by decide +kernel, by decide +kernel⟩, by decide⟩
theorem vwX4_readProduct : Cond.instanceMethod iX4_readProduct.1 ∈ jm_T ∧ Cond.selects iX4_readProduct.1.cls iX4_readProduct.1 iX4_readProduct.1 ∈ jm_T := ⟨jm_tw (n := 667) (by decide +kernel) rfl, jm_tp (n := 11) (q := (yX4_readProduct, _)) (by rfl)⟩
theorem cwX4_readUnit : jm_cw iX4_readUnit 0 := ⟨jm_tw (n := 672) (by decide +kernel) rfl, jm_tw (n := 12) (by decide +kernel) rfl, ⟨by decide +kernel, by decide +kernel, by decide +kernel⟩, by decide⟩
theorem vwX4_readUnit : Cond.instanceMethod iX4_readUnit.1 ∈ jm_T ∧ Cond.selects iX4_readUnit.1.cls iX4_readUnit.1 iX4_readUnit.1 ∈ jm_T := ⟨jm_tw (n := 671) (by decide +kernel) rfl, jm_tp (n := 12) (q := (yX4_readUnit, _)) (by rfl)⟩
theorem cwX5_copyFrom : jm_cw iX5_copyFrom 1 := ⟨jm_tw (n := 641) (by decide +kernel) rfl, jm_tw (n := 4) (by decide +kernel) rfl, ⟨by decide +kernel, by decide +kernel, by decide +kernel⟩, by decide⟩
theorem vwX5_copyFrom : Cond.instanceMethod iX5_copyFrom.1 ∈ jm_T ∧ Cond.selects iX5_copyFrom.1.cls iX5_copyFrom.1 iX5_copyFrom.1 ∈ jm_T := ⟨jm_tw (n := 639) (by decide +kernel) rfl, jm_tw (n := 640) (by decide +kernel) rfl⟩
theorem cwX5_stepOf : jm_cw iX5_stepOf 2 := ⟨jm_tw (n := 798) (by decide +kernel) rfl, jm_tw (n := 4) (by decide +kernel) rfl, ⟨by decide +kernel, by decide +kernel, by decide +kernel⟩, by decide⟩
theorem vwX5_stepOf : Cond.instanceMethod iX5_stepOf.1 ∈ jm_T ∧ Cond.selects iX5_stepOf.1.cls iX5_stepOf.1 iX5_stepOf.1 ∈ jm_T := ⟨jm_tw (n := 796) (by decide +kernel) rfl, jm_tw (n := 797) (by decide +kernel) rfl⟩
theorem cwX5_rise : jm_cw iX5_rise 1 := ⟨jm_tw (n := 810) (by decide +kernel) rfl, jm_tw (n := 4) (by decide +kernel) rfl, ⟨by decide +kernel, by decide +kernel, by decide +kernel⟩, by decide⟩
theorem vwX5_rise : Cond.instanceMethod iX5_rise.1 ∈ jm_T ∧ Cond.selects iX5_rise.1.cls iX5_rise.1 iX5_rise.1 ∈ jm_T := ⟨jm_tw (n := 808) (by decide +kernel) rfl, jm_tw (n := 809) (by decide +kernel) rfl⟩
theorem cwX5_fall : jm_cw iX5_fall 1 := ⟨jm_tw (n := 794) (by decide +kernel) rfl, jm_tw (n := 4) (by decide +kernel) rfl, ⟨by decide +kernel, by decide +kernel, by decide +kernel⟩, by decide⟩
theorem vwX5_fall : Cond.instanceMethod iX5_fall.1 ∈ jm_T ∧ Cond.selects iX5_fall.1.cls iX5_fall.1 iX5_fall.1 ∈ jm_T := ⟨jm_tw (n := 792) (by decide +kernel) rfl, jm_tw (n := 793) (by decide +kernel) rfl⟩
theorem cwX5_readFrom : jm_cw iX5_readFrom 1 := ⟨jm_tw (n := 595) (by decide +kernel) rfl, jm_tw (n := 4) (by decide +kernel) rfl, ⟨by decide +kernel, by decide +kernel, by decide +kernel⟩, by decide⟩
theorem vwX5_readFrom : Cond.instanceMethod iX5_readFrom.1 ∈ jm_T ∧ Cond.selects iX5_readFrom.1.cls iX5_readFrom.1 iX5_readFrom.1 ∈ jm_T := ⟨jm_tw (n := 593) (by decide +kernel) rfl, jm_tw (n := 594) (by decide +kernel) rfl⟩
theorem cwX5_readLine : jm_cw iX5_readLine 1 := ⟨jm_tw (n := 603) (by decide +kernel) rfl, jm_tw (n := 4) (by decide +kernel) rfl, ⟨by decide +kernel, by decide +kernel, by decide +kernel⟩, by decide⟩
theorem vwX5_readLine : Cond.instanceMethod iX5_readLine.1 ∈ jm_T ∧ Cond.selects iX5_readLine.1.cls iX5_readLine.1 iX5_readLine.1 ∈ jm_T := ⟨jm_tw (n := 602) (by decide +kernel) rfl, jm_tp (n := 7) (q := (yX5_readLine, _)) (by rfl)⟩
theorem cwX5_readSteps : jm_cw iX5_readSteps 2 := ⟨jm_tw (n := 630) (by decide +kernel) rfl, jm_tw (n := 4) (by decide +kernel) rfl, ⟨by decide +kernel, by decide +kernel, by decide +kernel⟩, by decide⟩
theorem vwX5_readSteps : Cond.instanceMethod iX5_readSteps.1 ∈ jm_T ∧ Cond.selects iX5_readSteps.1.cls iX5_readSteps.1 iX5_readSteps.1 ∈ jm_T := ⟨jm_tw (n := 629) (by decide +kernel) rfl, jm_tp (n := 8) (q := (yX5_readSteps, _)) (by rfl)⟩
theorem cwX5_readStep : jm_cw iX5_readStep 2 := ⟨jm_tw (n := 633) (by decide +kernel) rfl, jm_tw (n := 4) (by decide +kernel) rfl, ⟨by decide +kernel, by decide +kernel, by decide +kernel⟩, by decide⟩
theorem vwX5_readStep : Cond.static iX5_readStep.1 ∈ jm_T := jm_tw (n := 632) (by decide +kernel) rfl
theorem cwX6_copyFrom : jm_cw iX6_copyFrom 1 := ⟨jm_tw (n := 758) (by decide +kernel) rfl, jm_tw (n := 6) (by decide +kernel) rfl, ⟨by decide +kernel, by decide +kernel, by decide +kernel⟩, by decide⟩
theorem vwX6_copyFrom : Cond.instanceMethod iX6_copyFrom.1 ∈ jm_T ∧ Cond.selects iX6_copyFrom.1.cls iX6_copyFrom.1 iX6_copyFrom.1 ∈ jm_T := ⟨jm_tw (n := 756) (by decide +kernel) rfl, jm_tw (n := 757) (by decide +kernel) rfl⟩
theorem cwX6_rests : jm_cw iX6_rests 0 := ⟨jm_tw (n := 941) (by decide +kernel) rfl, jm_tw (n := 6) (by decide +kernel) rfl, ⟨by decide +kernel, by decide +kernel, by decide +kernel⟩, by decide⟩
theorem vwX6_rests : Cond.instanceMethod iX6_rests.1 ∈ jm_T ∧ Cond.selects iX6_rests.1.cls iX6_rests.1 iX6_rests.1 ∈ jm_T := ⟨jm_tw (n := 939) (by decide +kernel) rfl, jm_tw (n := 940) (by decide +kernel) rfl⟩
theorem cwX6_readFrom : jm_cw iX6_readFrom 2 := ⟨jm_tw (n := 711) (by decide +kernel) rfl, jm_tw (n := 6) (by decide +kernel) rfl, ⟨by decide +kernel, by decide +kernel, by decide +kernel⟩, by decide⟩
theorem vwX6_readFrom : Cond.instanceMethod iX6_readFrom.1 ∈ jm_T ∧ Cond.selects iX6_readFrom.1.cls iX6_readFrom.1 iX6_readFrom.1 ∈ jm_T := ⟨jm_tw (n := 709) (by decide +kernel) rfl, jm_tw (n := 710) (by decide +kernel) rfl⟩
theorem cwX6_readEnd : jm_cw iX6_readEnd 1 := ⟨jm_tw (n := 716) (by decide +kernel) rfl, jm_tw (n := 6) (by decide +kernel) rfl, ⟨by decide +kernel, by decide +kernel, by decide +kernel⟩, by decide⟩
theorem vwX6_readEnd : Cond.instanceMethod iX6_readEnd.1 ∈ jm_T ∧ Cond.selects iX6_readEnd.1.cls iX6_readEnd.1 iX6_readEnd.1 ∈ jm_T := ⟨jm_tw (n := 715) (by decide +kernel) rfl, jm_tp (n := 16) (q := (yX6_readEnd, _)) (by rfl)⟩
theorem cwX6_readDeed : jm_cw iX6_readDeed 2 := ⟨jm_tw (n := 721) (by decide +kernel) rfl, jm_tw (n := 6) (by decide +kernel) rfl, ⟨by decide +kernel, by decide +kernel, by decide +kernel⟩, by decide⟩
theorem vwX6_readDeed : Cond.instanceMethod iX6_readDeed.1 ∈ jm_T ∧ Cond.selects iX6_readDeed.1.cls iX6_readDeed.1 iX6_readDeed.1 ∈ jm_T := ⟨jm_tw (n := 720) (by decide +kernel) rfl, jm_tp (n := 17) (q := (yX6_readDeed, _)) (by rfl)⟩
theorem cwX6_readCall : jm_cw iX6_readCall 2 := ⟨jm_tw (n := 725) (by decide +kernel) rfl, jm_tw (n := 6) (by decide +kernel) rfl, ⟨by decide +kernel, by decide +kernel, by decide +kernel⟩, by decide⟩
theorem vwX6_readCall : Cond.instanceMethod iX6_readCall.1 ∈ jm_T ∧ Cond.selects iX6_readCall.1.cls iX6_readCall.1 iX6_readCall.1 ∈ jm_T := ⟨jm_tw (n := 724) (by decide +kernel) rfl, jm_tp (n := 18) (q := (yX6_readCall, _)) (by rfl)⟩
theorem cwX6_readCross : jm_cw iX6_readCross 2 := ⟨jm_tw (n := 737) (by decide +kernel) rfl, jm_tw (n := 6) (by decide +kernel) rfl, ⟨by decide +kernel, by decide +kernel, by decide +kernel⟩, by decide⟩
theorem vwX6_readCross : Cond.instanceMethod iX6_readCross.1 ∈ jm_T ∧ Cond.selects iX6_readCross.1.cls iX6_readCross.1 iX6_readCross.1 ∈ jm_T := ⟨jm_tw (n := 736) (by decide +kernel) rfl, jm_tp (n := 20) (q := (yX6_readCross, _)) (by rfl)⟩
theorem cwX6_readAgain : jm_cw iX6_readAgain 1 := ⟨jm_tw (n := 741) (by decide +kernel) rfl, jm_tw (n := 6) (by decide +kernel) rfl, ⟨by decide +kernel, by decide +kernel, by decide +kernel⟩, by decide⟩
theorem vwX6_readAgain : Cond.instanceMethod iX6_readAgain.1 ∈ jm_T ∧ Cond.selects iX6_readAgain.1.cls iX6_readAgain.1 iX6_readAgain.1 ∈ jm_T := ⟨jm_tw (n := 740) (by decide +kernel) rfl, jm_tp (n := 21) (q := (yX6_readAgain, _)) (by rfl)⟩
theorem cwX6_closeAgain : jm_cw iX6_closeAgain 1 := ⟨jm_tw (n := 745) (by decide +kernel) rfl, jm_tw (n := 6) (by decide +kernel) rfl, ⟨by decide +kernel, by decide +kernel, by decide +kernel⟩, by decide⟩
theorem vwX6_closeAgain : Cond.instanceMethod iX6_closeAgain.1 ∈ jm_T ∧ Cond.selects iX6_closeAgain.1.cls iX6_closeAgain.1 iX6_closeAgain.1 ∈ jm_T := ⟨jm_tw (n := 744) (by decide +kernel) rfl, jm_tp (n := 22) (q := (yX6_closeAgain, _)) (by rfl)⟩
theorem cwX6_copyDeed : jm_cw iX6_copyDeed 2 := ⟨jm_tw (n := 749) (by decide +kernel) rfl, jm_tw (n := 6) (by decide +kernel) rfl, ⟨by decide +kernel, by decide +kernel, by decide +kernel⟩, by decide⟩
theorem vwX6_copyDeed : Cond.instanceMethod iX6_copyDeed.1 ∈ jm_T ∧ Cond.selects iX6_copyDeed.1.cls iX6_copyDeed.1 iX6_copyDeed.1 ∈ jm_T := ⟨jm_tw (n := 748) (by decide +kernel) rfl, jm_tp (n := 23) (q := (yX6_copyDeed, _)) (by rfl)⟩
theorem cwX6_addDeed : jm_cw iX6_addDeed 4 := ⟨jm_tw (n := 733) (by decide +kernel) rfl, jm_tw (n := 6) (by decide +kernel) rfl, ⟨by decide +kernel, by decide +kernel, by decide +kernel⟩, by decide⟩
theorem vwX6_addDeed : Cond.instanceMethod iX6_addDeed.1 ∈ jm_T ∧ Cond.selects iX6_addDeed.1.cls iX6_addDeed.1 iX6_addDeed.1 ∈ jm_T := ⟨jm_tw (n := 732) (by decide +kernel) rfl, jm_tp (n := 19) (q := (yX6_addDeed, _)) (by rfl)⟩
theorem cwX7_hasRoom : jm_cw iX7_hasRoom 1 := ⟨jm_tw (n := 500) (by decide +kernel) rfl, jm_tw (n := 2) (by decide +kernel) rfl, ⟨by decide +kernel, by decide +kernel, by decide +kernel⟩, by decide⟩
theorem vwX7_hasRoom : Cond.instanceMethod iX7_hasRoom.1 ∈ jm_T ∧ Cond.selects iX7_hasRoom.1.cls iX7_hasRoom.1 iX7_hasRoom.1 ∈ jm_T := ⟨jm_tw (n := 498) (by decide +kernel) rfl, jm_tw (n := 499) (by decide +kernel) rfl⟩
theorem cwX7_addNumber : jm_cw iX7_addNumber 1 := ⟨jm_tw (n := 504) (by decide +kernel) rfl, jm_tw (n := 2) (by decide +kernel) rfl, ⟨by decide +kernel, by decide +kernel, by decide +kernel⟩, by decide⟩
theorem vwX7_addNumber : Cond.instanceMethod iX7_addNumber.1 ∈ jm_T ∧ Cond.selects iX7_addNumber.1.cls iX7_addNumber.1 iX7_addNumber.1 ∈ jm_T := ⟨jm_tw (n := 502) (by decide +kernel) rfl, jm_tw (n := 503) (by decide +kernel) rfl⟩
theorem cwX7_clearFault : jm_cw iX7_clearFault 0 := ⟨jm_tw (n := 516) (by decide +kernel) rfl, jm_tw (n := 2) (by decide +kernel) rfl, ⟨by decide +kernel, by decide +kernel, by decide +kernel⟩, by decide⟩
theorem vwX7_clearFault : Cond.instanceMethod iX7_clearFault.1 ∈ jm_T ∧ Cond.selects iX7_clearFault.1.cls iX7_clearFault.1 iX7_clearFault.1 ∈ jm_T := ⟨jm_tw (n := 514) (by decide +kernel) rfl, jm_tw (n := 515) (by decide +kernel) rfl⟩
theorem cwX7_refuse : jm_cw iX7_refuse 1 := ⟨jm_tw (n := 607) (by decide +kernel) rfl, jm_tw (n := 2) (by decide +kernel) rfl, ⟨by decide +kernel, by decide +kernel, by decide +kernel⟩, by decide⟩
theorem vwX7_refuse : Cond.instanceMethod iX7_refuse.1 ∈ jm_T ∧ Cond.selects iX7_refuse.1.cls iX7_refuse.1 iX7_refuse.1 ∈ jm_T := ⟨jm_tw (n := 605) (by decide +kernel) rfl, jm_tw (n := 606) (by decide +kernel) rfl⟩
theorem cwX7_kind : jm_cw iX7_kind 0 := ⟨jm_tw (n := 599) (by decide +kernel) rfl, jm_tw (n := 2) (by decide +kernel) rfl, ⟨by decide +kernel, by decide +kernel, by decide +kernel⟩, by decide⟩
theorem vwX7_kind : Cond.instanceMethod iX7_kind.1 ∈ jm_T ∧ Cond.selects iX7_kind.1.cls iX7_kind.1 iX7_kind.1 ∈ jm_T := ⟨jm_tw (n := 597) (by decide +kernel) rfl, jm_tw (n := 598) (by decide +kernel) rfl⟩
theorem cwX7_skip : jm_cw iX7_skip 0 := ⟨jm_tw (n := 616) (by decide +kernel) rfl, jm_tw (n := 2) (by decide +kernel) rfl, ⟨by decide +kernel, by decide +kernel, by decide +kernel⟩, by decide⟩
theorem vwX7_skip : Cond.instanceMethod iX7_skip.1 ∈ jm_T ∧ Cond.selects iX7_skip.1.cls iX7_skip.1 iX7_skip.1 ∈ jm_T := ⟨jm_tw (n := 614) (by decide +kernel) rfl, jm_tw (n := 615) (by decide +kernel) rfl⟩
theorem cwX7_take : jm_cw iX7_take 1 := ⟨jm_tw (n := 611) (by decide +kernel) rfl, jm_tw (n := 2) (by decide +kernel) rfl, ⟨by decide +kernel, by decide +kernel, by decide +kernel⟩, by decide⟩
theorem vwX7_take : Cond.instanceMethod iX7_take.1 ∈ jm_T ∧ Cond.selects iX7_take.1.cls iX7_take.1 iX7_take.1 ∈ jm_T := ⟨jm_tw (n := 609) (by decide +kernel) rfl, jm_tw (n := 610) (by decide +kernel) rfl⟩
theorem cwX7_isNumberWithin : jm_cw iX7_isNumberWithin 2 := ⟨jm_tw (n := 620) (by decide +kernel) rfl, jm_tw (n := 2) (by decide +kernel) rfl, ⟨by decide +kernel, by decide +kernel, by decide +kernel⟩, by decide⟩
theorem vwX7_isNumberWithin : Cond.instanceMethod iX7_isNumberWithin.1 ∈ jm_T ∧ Cond.selects iX7_isNumberWithin.1.cls iX7_isNumberWithin.1 iX7_isNumberWithin.1 ∈ jm_T := ⟨jm_tw (n := 618) (by decide +kernel) rfl, jm_tw (n := 619) (by decide +kernel) rfl⟩
theorem cwX7_number : jm_cw iX7_number 0 := ⟨jm_tw (n := 624) (by decide +kernel) rfl, jm_tw (n := 2) (by decide +kernel) rfl, ⟨by decide +kernel, by decide +kernel, by decide +kernel⟩, by decide⟩
theorem vwX7_number : Cond.instanceMethod iX7_number.1 ∈ jm_T ∧ Cond.selects iX7_number.1.cls iX7_number.1 iX7_number.1 ∈ jm_T := ⟨jm_tw (n := 622) (by decide +kernel) rfl, jm_tw (n := 623) (by decide +kernel) rfl⟩
theorem cwX7_cutIntoTokens : jm_cw iX7_cutIntoTokens 1 := ⟨jm_tw (n := 520) (by decide +kernel) rfl, jm_tw (n := 2) (by decide +kernel) rfl, ⟨by decide +kernel, by decide +kernel, by decide +kernel⟩, by decide⟩
theorem vwX7_cutIntoTokens : Cond.instanceMethod iX7_cutIntoTokens.1 ∈ jm_T ∧ Cond.selects iX7_cutIntoTokens.1.cls iX7_cutIntoTokens.1 iX7_cutIntoTokens.1 ∈ jm_T := ⟨jm_tw (n := 518) (by decide +kernel) rfl, jm_tw (n := 519) (by decide +kernel) rfl⟩
theorem cwX7_addToken : jm_cw iX7_addToken 1 := ⟨jm_tw (n := 531) (by decide +kernel) rfl, jm_tw (n := 2) (by decide +kernel) rfl, ⟨by decide +kernel, by decide +kernel, by decide +kernel⟩, by decide⟩
theorem vwX7_addToken : Cond.instanceMethod iX7_addToken.1 ∈ jm_T ∧ Cond.selects iX7_addToken.1.cls iX7_addToken.1 iX7_addToken.1 ∈ jm_T := ⟨jm_tw (n := 530) (by decide +kernel) rfl, jm_tp (n := 3) (q := (yX7_addToken, _)) (by rfl)⟩
theorem cwX7_sortOf : jm_cw iX7_sortOf 1 := ⟨jm_tw (n := 526) (by decide +kernel) rfl, jm_tw (n := 2) (by decide +kernel) rfl, ⟨by decide +kernel, by decide +kernel, by decide +kernel⟩, by decide⟩
theorem vwX7_sortOf : Cond.static iX7_sortOf.1 ∈ jm_T := jm_tw (n := 525) (by decide +kernel) rfl
theorem cwX7_kindOf : jm_cw iX7_kindOf 2 := ⟨jm_tw (n := 535) (by decide +kernel) rfl, jm_tw (n := 2) (by decide +kernel) rfl, ⟨by decide +kernel, by decide +kernel, by decide +kernel⟩, by decide⟩
theorem vwX7_kindOf : Cond.instanceMethod iX7_kindOf.1 ∈ jm_T ∧ Cond.selects iX7_kindOf.1.cls iX7_kindOf.1 iX7_kindOf.1 ∈ jm_T := ⟨jm_tw (n := 534) (by decide +kernel) rfl, jm_tp (n := 4) (q := (yX7_kindOf, _)) (by rfl)⟩
theorem cwX7_wordOf : jm_cw iX7_wordOf 2 := ⟨jm_tw (n := 539) (by decide +kernel) rfl, jm_tw (n := 2) (by decide +kernel) rfl, ⟨by decide +kernel, by decide +kernel, by decide +kernel⟩, by decide⟩
theorem vwX7_wordOf : Cond.instanceMethod iX7_wordOf.1 ∈ jm_T ∧ Cond.selects iX7_wordOf.1.cls iX7_wordOf.1 iX7_wordOf.1 ∈ jm_T := ⟨jm_tw (n := 538) (by decide +kernel) rfl, jm_tp (n := 5) (q := (yX7_wordOf, _)) (by rfl)⟩
theorem cwX7_isSpelled : jm_cw iX7_isSpelled 4 := ⟨jm_tw (n := 591) (by decide +kernel) rfl, jm_tw (n := 2) (by decide +kernel) rfl, ⟨by decide +kernel, by decide +kernel, by decide +kernel⟩, by decide⟩
theorem vwX7_isSpelled : Cond.instanceMethod iX7_isSpelled.1 ∈ jm_T ∧ Cond.selects iX7_isSpelled.1.cls iX7_isSpelled.1 iX7_isSpelled.1 ∈ jm_T := ⟨jm_tw (n := 590) (by decide +kernel) rfl, jm_tp (n := 6) (q := (yX7_isSpelled, _)) (by rfl)⟩
theorem cwX8_copyFrom : jm_cw iX8_copyFrom 1 := ⟨jm_tw (n := 1229) (by decide +kernel) rfl, jm_tw (n := 3) (by decide +kernel) rfl, ⟨by decide +kernel, by decide +kernel, by decide +kernel⟩, by decide⟩
theorem vwX8_copyFrom : Cond.instanceMethod iX8_copyFrom.1 ∈ jm_T ∧ Cond.selects iX8_copyFrom.1.cls iX8_copyFrom.1 iX8_copyFrom.1 ∈ jm_T := ⟨jm_tw (n := 1227) (by decide +kernel) rfl, jm_tw (n := 1228) (by decide +kernel) rfl⟩
theorem cwX8_isWitness : jm_cw iX8_isWitness 1 := ⟨jm_tw (n := 477) (by decide +kernel) rfl, jm_tw (n := 3) (by decide +kernel) rfl, ⟨by decide +kernel, by decide +kernel, by decide +kernel⟩, by decide⟩
theorem vwX8_isWitness : Cond.instanceMethod iX8_isWitness.1 ∈ jm_T ∧ Cond.selects iX8_isWitness.1.cls iX8_isWitness.1 iX8_isWitness.1 ∈ jm_T := ⟨jm_tw (n := 475) (by decide +kernel) rfl, jm_tw (n := 476) (by decide +kernel) rfl⟩
theorem cwX8_addWitness : jm_cw iX8_addWitness 3 := ⟨jm_tw (n := 469) (by decide +kernel) rfl, jm_tw (n := 3) (by decide +kernel) rfl, ⟨by decide +kernel, by decide +kernel, by decide +kernel⟩, by decide⟩
theorem vwX8_addWitness : Cond.instanceMethod iX8_addWitness.1 ∈ jm_T ∧ Cond.selects iX8_addWitness.1.cls iX8_addWitness.1 iX8_addWitness.1 ∈ jm_T := ⟨jm_tw (n := 467) (by decide +kernel) rfl, jm_tw (n := 468) (by decide +kernel) rfl⟩
theorem cwX8_claimOf : jm_cw iX8_claimOf 2 := ⟨jm_tw (n := 780) (by decide +kernel) rfl, jm_tw (n := 3) (by decide +kernel) rfl, ⟨by decide +kernel, by decide +kernel, by decide +kernel⟩, by decide⟩
theorem vwX8_claimOf : Cond.instanceMethod iX8_claimOf.1 ∈ jm_T ∧ Cond.selects iX8_claimOf.1.cls iX8_claimOf.1 iX8_claimOf.1 ∈ jm_T := ⟨jm_tw (n := 778) (by decide +kernel) rfl, jm_tw (n := 779) (by decide +kernel) rfl⟩
theorem cwX8_sounds : jm_cw iX8_sounds 2 := ⟨jm_tw (n := 1056) (by decide +kernel) rfl, jm_tw (n := 3) (by decide +kernel) rfl, ⟨by decide +kernel, by decide +kernel, by decide +kernel⟩, by decide⟩
theorem vwX8_sounds : Cond.instanceMethod iX8_sounds.1 ∈ jm_T ∧ Cond.selects iX8_sounds.1.cls iX8_sounds.1 iX8_sounds.1 ∈ jm_T := ⟨jm_tw (n := 1054) (by decide +kernel) rfl, jm_tw (n := 1055) (by decide +kernel) rfl⟩
theorem cwX8_barsSound : jm_cw iX8_barsSound 2 := ⟨jm_tw (n := 1052) (by decide +kernel) rfl, jm_tw (n := 3) (by decide +kernel) rfl, ⟨by decide +kernel, by decide +kernel, by decide +kernel⟩, by decide⟩
theorem vwX8_barsSound : Cond.instanceMethod iX8_barsSound.1 ∈ jm_T ∧ Cond.selects iX8_barsSound.1.cls iX8_barsSound.1 iX8_barsSound.1 ∈ jm_T := ⟨jm_tw (n := 1050) (by decide +kernel) rfl, jm_tw (n := 1051) (by decide +kernel) rfl⟩
theorem cwX9_weightFor : jm_cw iX9_weightFor 2 := ⟨jm_tw (n := 1092) (by decide +kernel) rfl, jm_tw (n := 11) (by decide +kernel) rfl, ⟨by decide +kernel, by decide +kernel, by decide +kernel⟩, by decide⟩
theorem vwX9_weightFor : Cond.instanceMethod iX9_weightFor.1 ∈ jm_T ∧ Cond.selects iX9_weightFor.1.cls iX9_weightFor.1 iX9_weightFor.1 ∈ jm_T := ⟨jm_tw (n := 1090) (by decide +kernel) rfl, jm_tw (n := 1091) (by decide +kernel) rfl⟩
theorem cwX9_weighAll : jm_cw iX9_weighAll 1 := ⟨jm_tw (n := 1096) (by decide +kernel) rfl, jm_tw (n := 11) (by decide +kernel) rfl, ⟨by decide +kernel, by decide +kernel, by decide +kernel⟩, by decide⟩
theorem vwX9_weighAll : Cond.instanceMethod iX9_weighAll.1 ∈ jm_T ∧ Cond.selects iX9_weighAll.1.cls iX9_weighAll.1 iX9_weighAll.1 ∈ jm_T := ⟨jm_tw (n := 1095) (by decide +kernel) rfl, jm_tp (n := 35) (q := (yX9_weighAll, _)) (by rfl)⟩
theorem cwX9_finding : jm_cw iX9_finding 1 := ⟨jm_tw (n := 1106) (by decide +kernel) rfl, jm_tw (n := 11) (by decide +kernel) rfl, ⟨by decide +kernel, by decide +kernel, by decide +kernel⟩, by decide⟩
theorem vwX9_finding : Cond.instanceMethod iX9_finding.1 ∈ jm_T ∧ Cond.selects iX9_finding.1.cls iX9_finding.1 iX9_finding.1 ∈ jm_T := ⟨jm_tw (n := 1104) (by decide +kernel) rfl, jm_tw (n := 1105) (by decide +kernel) rfl⟩
theorem cwX9_missingFor : jm_cw iX9_missingFor 1 := ⟨jm_tw (n := 1110) (by decide +kernel) rfl, jm_tw (n := 11) (by decide +kernel) rfl, ⟨by decide +kernel, by decide +kernel, by decide +kernel⟩, by decide⟩
theorem vwX9_missingFor : Cond.instanceMethod iX9_missingFor.1 ∈ jm_T ∧ Cond.selects iX9_missingFor.1.cls iX9_missingFor.1 iX9_missingFor.1 ∈ jm_T := ⟨jm_tw (n := 1109) (by decide +kernel) rfl, jm_tp (n := 36) (q := (yX9_missingFor, _)) (by rfl)⟩
theorem cwX9_fewestCallers : jm_cw iX9_fewestCallers 2 := ⟨jm_tw (n := 1119) (by decide +kernel) rfl, jm_tw (n := 11) (by decide +kernel) rfl, ⟨by decide +kernel, by decide +kernel, by decide +kernel⟩, by decide⟩
theorem vwX9_fewestCallers : Cond.instanceMethod iX9_fewestCallers.1 ∈ jm_T ∧ Cond.selects iX9_fewestCallers.1.cls iX9_fewestCallers.1 iX9_fewestCallers.1 ∈ jm_T := ⟨jm_tw (n := 1117) (by decide +kernel) rfl, jm_tw (n := 1118) (by decide +kernel) rfl⟩
theorem cwX9_callable : jm_cw iX9_callable 2 := ⟨jm_tw (n := 1123) (by decide +kernel) rfl, jm_tw (n := 11) (by decide +kernel) rfl, ⟨by decide +kernel, by decide +kernel, by decide +kernel⟩, by decide⟩
theorem vwX9_callable : Cond.instanceMethod iX9_callable.1 ∈ jm_T ∧ Cond.selects iX9_callable.1.cls iX9_callable.1 iX9_callable.1 ∈ jm_T := ⟨jm_tw (n := 1122) (by decide +kernel) rfl, jm_tp (n := 37) (q := (yX9_callable, _)) (by rfl)⟩
theorem cwX9_sumOf : jm_cw iX9_sumOf 1 := ⟨jm_tw (n := 1136) (by decide +kernel) rfl, jm_tw (n := 11) (by decide +kernel) rfl, ⟨by decide +kernel, by decide +kernel, by decide +kernel⟩, by decide⟩
theorem vwX9_sumOf : Cond.instanceMethod iX9_sumOf.1 ∈ jm_T ∧ Cond.selects iX9_sumOf.1.cls iX9_sumOf.1 iX9_sumOf.1 ∈ jm_T := ⟨jm_tw (n := 1135) (by decide +kernel) rfl, jm_tp (n := 38) (q := (yX9_sumOf, _)) (by rfl)⟩
theorem cwX9_largestChoir : jm_cw iX9_largestChoir 0 := ⟨jm_tw (n := 1145) (by decide +kernel) rfl, jm_tw (n := 11) (by decide +kernel) rfl, ⟨by decide +kernel, by decide +kernel, by decide +kernel⟩, by decide⟩
theorem vwX9_largestChoir : Cond.instanceMethod iX9_largestChoir.1 ∈ jm_T ∧ Cond.selects iX9_largestChoir.1.cls iX9_largestChoir.1 iX9_largestChoir.1 ∈ jm_T := ⟨jm_tw (n := 1143) (by decide +kernel) rfl, jm_tw (n := 1144) (by decide +kernel) rfl⟩
theorem cwX9_opponentsOf : jm_cw iX9_opponentsOf 1 := ⟨jm_tw (n := 1149) (by decide +kernel) rfl, jm_tw (n := 11) (by decide +kernel) rfl, ⟨by decide +kernel, by decide +kernel, by decide +kernel⟩, by decide⟩
theorem vwX9_opponentsOf : Cond.instanceMethod iX9_opponentsOf.1 ∈ jm_T ∧ Cond.selects iX9_opponentsOf.1.cls iX9_opponentsOf.1 iX9_opponentsOf.1 ∈ jm_T := ⟨jm_tw (n := 1148) (by decide +kernel) rfl, jm_tp (n := 39) (q := (yX9_opponentsOf, _)) (by rfl)⟩
theorem cwX9_areUnlike : jm_cw iX9_areUnlike 2 := ⟨jm_tw (n := 1153) (by decide +kernel) rfl, jm_tw (n := 11) (by decide +kernel) rfl, ⟨by decide +kernel, by decide +kernel, by decide +kernel⟩, by decide⟩
theorem vwX9_areUnlike : Cond.static iX9_areUnlike.1 ∈ jm_T := jm_tw (n := 1152) (by decide +kernel) rfl
theorem cwX9_agree : jm_cw iX9_agree 1 := ⟨jm_tw (n := 1157) (by decide +kernel) rfl, jm_tw (n := 11) (by decide +kernel) rfl, ⟨by decide +kernel, by decide +kernel, by decide +kernel⟩, by decide⟩
theorem vwX9_agree : Cond.instanceMethod iX9_agree.1 ∈ jm_T ∧ Cond.selects iX9_agree.1.cls iX9_agree.1 iX9_agree.1 ∈ jm_T := ⟨jm_tw (n := 1156) (by decide +kernel) rfl, jm_tp (n := 40) (q := (yX9_agree, _)) (by rfl)⟩
theorem cwX9_worldsWith : jm_cw iX9_worldsWith 2 := ⟨jm_tw (n := 1165) (by decide +kernel) rfl, jm_tw (n := 11) (by decide +kernel) rfl, ⟨by decide +kernel, by decide +kernel, by decide +kernel⟩, by decide⟩
theorem vwX9_worldsWith : Cond.instanceMethod iX9_worldsWith.1 ∈ jm_T ∧ Cond.selects iX9_worldsWith.1.cls iX9_worldsWith.1 iX9_worldsWith.1 ∈ jm_T := ⟨jm_tw (n := 1163) (by decide +kernel) rfl, jm_tw (n := 1164) (by decide +kernel) rfl⟩
theorem cwX9_tellLiars : jm_cw iX9_tellLiars 0 := ⟨jm_tw (n := 1169) (by decide +kernel) rfl, jm_tw (n := 11) (by decide +kernel) rfl, ⟨by decide +kernel, by decide +kernel, by decide +kernel⟩, by decide⟩
theorem vwX9_tellLiars : Cond.instanceMethod iX9_tellLiars.1 ∈ jm_T ∧ Cond.selects iX9_tellLiars.1.cls iX9_tellLiars.1 iX9_tellLiars.1 ∈ jm_T := ⟨jm_tw (n := 1168) (by decide +kernel) rfl, jm_tp (n := 41) (q := (yX9_tellLiars, _)) (by rfl)⟩
theorem cwX9_countWorlds : jm_cw iX9_countWorlds 3 := ⟨jm_tw (n := 1173) (by decide +kernel) rfl, jm_tw (n := 11) (by decide +kernel) rfl, ⟨by decide +kernel, by decide +kernel, by decide +kernel⟩, by decide⟩
theorem vwX9_countWorlds : Cond.instanceMethod iX9_countWorlds.1 ∈ jm_T ∧ Cond.selects iX9_countWorlds.1.cls iX9_countWorlds.1 iX9_countWorlds.1 ∈ jm_T := ⟨jm_tw (n := 1172) (by decide +kernel) rfl, jm_tp (n := 42) (q := (yX9_countWorlds, _)) (by rfl)⟩
theorem cwX9_sureFacts : jm_cw iX9_sureFacts 1 := ⟨jm_tw (n := 1177) (by decide +kernel) rfl, jm_tw (n := 11) (by decide +kernel) rfl, ⟨by decide +kernel, by decide +kernel, by decide +kernel⟩, by decide⟩
theorem vwX9_sureFacts : Cond.instanceMethod iX9_sureFacts.1 ∈ jm_T ∧ Cond.selects iX9_sureFacts.1.cls iX9_sureFacts.1 iX9_sureFacts.1 ∈ jm_T := ⟨jm_tw (n := 1176) (by decide +kernel) rfl, jm_tp (n := 43) (q := (yX9_sureFacts, _)) (by rfl)⟩
theorem cwX9_factToAsk : jm_cw iX9_factToAsk 1 := ⟨jm_tw (n := 1185) (by decide +kernel) rfl, jm_tw (n := 11) (by decide +kernel) rfl, ⟨by decide +kernel, by decide +kernel, by decide +kernel⟩, by decide⟩
theorem vwX9_factToAsk : Cond.instanceMethod iX9_factToAsk.1 ∈ jm_T ∧ Cond.selects iX9_factToAsk.1.cls iX9_factToAsk.1 iX9_factToAsk.1 ∈ jm_T := ⟨jm_tw (n := 1184) (by decide +kernel) rfl, jm_tp (n := 45) (q := (yX9_factToAsk, _)) (by rfl)⟩
theorem cwX9_mostAlike : jm_cw iX9_mostAlike 1 := ⟨jm_tw (n := 1181) (by decide +kernel) rfl, jm_tw (n := 11) (by decide +kernel) rfl, ⟨by decide +kernel, by decide +kernel, by decide +kernel⟩, by decide⟩
theorem vwX9_mostAlike : Cond.instanceMethod iX9_mostAlike.1 ∈ jm_T ∧ Cond.selects iX9_mostAlike.1.cls iX9_mostAlike.1 iX9_mostAlike.1 ∈ jm_T := ⟨jm_tw (n := 1180) (by decide +kernel) rfl, jm_tp (n := 44) (q := (yX9_mostAlike, _)) (by rfl)⟩
theorem cwX10_likelyWithin : jm_cw iX10_likelyWithin 4 := ⟨jm_tw (n := 1003) (by decide +kernel) rfl, jm_tw (n := 10) (by decide +kernel) rfl, ⟨by decide +kernel, by decide +kernel, by decide +kernel⟩, by decide⟩
theorem vwX10_likelyWithin : Cond.instanceMethod iX10_likelyWithin.1 ∈ jm_T ∧ Cond.selects iX10_likelyWithin.1.cls iX10_likelyWithin.1 iX10_likelyWithin.1 ∈ jm_T := ⟨jm_tw (n := 1001) (by decide +kernel) rfl, jm_tw (n := 1002) (by decide +kernel) rfl⟩
theorem cwX10_addChance : jm_cw iX10_addChance 1 := ⟨jm_tw (n := 1009) (by decide +kernel) rfl, jm_tw (n := 10) (by decide +kernel) rfl, ⟨by decide +kernel, by decide +kernel, by decide +kernel⟩, by decide⟩
theorem vwX10_addChance : Cond.instanceMethod iX10_addChance.1 ∈ jm_T ∧ Cond.selects iX10_addChance.1.cls iX10_addChance.1 iX10_addChance.1 ∈ jm_T := ⟨jm_tw (n := 1008) (by decide +kernel) rfl, jm_tp (n := 31) (q := (yX10_addChance, _)) (by rfl)⟩
theorem cwX10_motivesHeard : jm_cw iX10_motivesHeard 2 := ⟨jm_tw (n := 1022) (by decide +kernel) rfl, jm_tw (n := 10) (by decide +kernel) rfl, ⟨by decide +kernel, by decide +kernel, by decide +kernel⟩, by decide⟩
theorem vwX10_motivesHeard : Cond.instanceMethod iX10_motivesHeard.1 ∈ jm_T ∧ Cond.selects iX10_motivesHeard.1.cls iX10_motivesHeard.1 iX10_motivesHeard.1 ∈ jm_T := ⟨jm_tw (n := 1020) (by decide +kernel) rfl, jm_tw (n := 1021) (by decide +kernel) rfl⟩
theorem cwX10_fewestUnlike : jm_cw iX10_fewestUnlike 1 := ⟨jm_tw (n := 1026) (by decide +kernel) rfl, jm_tw (n := 10) (by decide +kernel) rfl, ⟨by decide +kernel, by decide +kernel, by decide +kernel⟩, by decide⟩
theorem vwX10_fewestUnlike : Cond.instanceMethod iX10_fewestUnlike.1 ∈ jm_T ∧ Cond.selects iX10_fewestUnlike.1.cls iX10_fewestUnlike.1 iX10_fewestUnlike.1 ∈ jm_T := ⟨jm_tw (n := 1025) (by decide +kernel) rfl, jm_tp (n := 32) (q := (yX10_fewestUnlike, _)) (by rfl)⟩
theorem cwX10_unlikeFrom : jm_cw iX10_unlikeFrom 2 := ⟨jm_tw (n := 1032) (by decide +kernel) rfl, jm_tw (n := 10) (by decide +kernel) rfl, ⟨by decide +kernel, by decide +kernel, by decide +kernel⟩, by decide⟩
theorem vwX10_unlikeFrom : Cond.instanceMethod iX10_unlikeFrom.1 ∈ jm_T ∧ Cond.selects iX10_unlikeFrom.1.cls iX10_unlikeFrom.1 iX10_unlikeFrom.1 ∈ jm_T := ⟨jm_tw (n := 1031) (by decide +kernel) rfl, jm_tp (n := 33) (q := (yX10_unlikeFrom, _)) (by rfl)⟩
theorem cwX10_soundingBars : jm_cw iX10_soundingBars 2 := ⟨jm_tw (n := 1041) (by decide +kernel) rfl, jm_tw (n := 10) (by decide +kernel) rfl, ⟨by decide +kernel, by decide +kernel, by decide +kernel⟩, by decide⟩
theorem vwX10_soundingBars : Cond.instanceMethod iX10_soundingBars.1 ∈ jm_T ∧ Cond.selects iX10_soundingBars.1.cls iX10_soundingBars.1 iX10_soundingBars.1 ∈ jm_T := ⟨jm_tw (n := 1039) (by decide +kernel) rfl, jm_tw (n := 1040) (by decide +kernel) rfl⟩
theorem cwX10_soundingBehind : jm_cw iX10_soundingBehind 2 := ⟨jm_tw (n := 1081) (by decide +kernel) rfl, jm_tw (n := 10) (by decide +kernel) rfl, ⟨by decide +kernel, by decide +kernel, by decide +kernel⟩, by decide⟩
theorem vwX10_soundingBehind : Cond.instanceMethod iX10_soundingBehind.1 ∈ jm_T ∧ Cond.selects iX10_soundingBehind.1.cls iX10_soundingBehind.1 iX10_soundingBehind.1 ∈ jm_T := ⟨jm_tw (n := 1079) (by decide +kernel) rfl, jm_tw (n := 1080) (by decide +kernel) rfl⟩
theorem cwX10_bestKey : jm_cw iX10_bestKey 4 := ⟨jm_tw (n := 1067) (by decide +kernel) rfl, jm_tw (n := 10) (by decide +kernel) rfl, ⟨by decide +kernel, by decide +kernel, by decide +kernel⟩, by decide⟩
theorem vwX10_bestKey : Cond.instanceMethod iX10_bestKey.1 ∈ jm_T ∧ Cond.selects iX10_bestKey.1.cls iX10_bestKey.1 iX10_bestKey.1 ∈ jm_T := ⟨jm_tw (n := 1065) (by decide +kernel) rfl, jm_tw (n := 1066) (by decide +kernel) rfl⟩
theorem cwX10_soundingFrom : jm_cw iX10_soundingFrom 3 := ⟨jm_tw (n := 1073) (by decide +kernel) rfl, jm_tw (n := 10) (by decide +kernel) rfl, ⟨by decide +kernel, by decide +kernel, by decide +kernel⟩, by decide⟩
theorem vwX10_soundingFrom : Cond.instanceMethod iX10_soundingFrom.1 ∈ jm_T ∧ Cond.selects iX10_soundingFrom.1.cls iX10_soundingFrom.1 iX10_soundingFrom.1 ∈ jm_T := ⟨jm_tw (n := 1072) (by decide +kernel) rfl, jm_tp (n := 34) (q := (yX10_soundingFrom, _)) (by rfl)⟩
theorem cwX10_chordOf : jm_cw iX10_chordOf 5 := ⟨jm_tw (n := 1193) (by decide +kernel) rfl, jm_tw (n := 10) (by decide +kernel) rfl, ⟨by decide +kernel, by decide +kernel, by decide +kernel⟩, by decide⟩
theorem vwX10_chordOf : Cond.instanceMethod iX10_chordOf.1 ∈ jm_T ∧ Cond.selects iX10_chordOf.1.cls iX10_chordOf.1 iX10_chordOf.1 ∈ jm_T := ⟨jm_tw (n := 1191) (by decide +kernel) rfl, jm_tw (n := 1192) (by decide +kernel) rfl⟩
theorem cwX10_chosen : jm_cw iX10_chosen 4 := ⟨jm_tw (n := 1217) (by decide +kernel) rfl, jm_tw (n := 10) (by decide +kernel) rfl, ⟨by decide +kernel, by decide +kernel, by decide +kernel⟩, by decide⟩
theorem vwX10_chosen : Cond.static iX10_chosen.1 ∈ jm_T := jm_tw (n := 1216) (by decide +kernel) rfl
theorem cwX10_tellSounds : jm_cw iX10_tellSounds 0 := ⟨jm_tw (n := 1197) (by decide +kernel) rfl, jm_tw (n := 10) (by decide +kernel) rfl, ⟨by decide +kernel, by decide +kernel, by decide +kernel⟩, by decide⟩
theorem vwX10_tellSounds : Cond.instanceMethod iX10_tellSounds.1 ∈ jm_T ∧ Cond.selects iX10_tellSounds.1.cls iX10_tellSounds.1 iX10_tellSounds.1 ∈ jm_T := ⟨jm_tw (n := 1196) (by decide +kernel) rfl, jm_tp (n := 46) (q := (yX10_tellSounds, _)) (by rfl)⟩
theorem cwX10_rangeOf : jm_cw iX10_rangeOf 1 := ⟨jm_tw (n := 1205) (by decide +kernel) rfl, jm_tw (n := 10) (by decide +kernel) rfl, ⟨by decide +kernel, by decide +kernel, by decide +kernel⟩, by decide⟩
theorem vwX10_rangeOf : Cond.instanceMethod iX10_rangeOf.1 ∈ jm_T ∧ Cond.selects iX10_rangeOf.1.cls iX10_rangeOf.1 iX10_rangeOf.1 ∈ jm_T := ⟨jm_tw (n := 1204) (by decide +kernel) rfl, jm_tp (n := 47) (q := (yX10_rangeOf, _)) (by rfl)⟩
theorem cwX10_has : jm_cw iX10_has 2 := ⟨jm_tw (n := 1201) (by decide +kernel) rfl, jm_tw (n := 10) (by decide +kernel) rfl, ⟨by decide +kernel, by decide +kernel, by decide +kernel⟩, by decide⟩
theorem vwX10_has : Cond.static iX10_has.1 ∈ jm_T := jm_tw (n := 1200) (by decide +kernel) rfl
theorem cwX10_lowestOf : jm_cw iX10_lowestOf 1 := ⟨jm_tw (n := 1214) (by decide +kernel) rfl, jm_tw (n := 10) (by decide +kernel) rfl, ⟨by decide +kernel, by decide +kernel, by decide +kernel⟩, by decide⟩
theorem vwX10_lowestOf : Cond.static iX10_lowestOf.1 ∈ jm_T := jm_tw (n := 1213) (by decide +kernel) rfl
theorem cwX11_state : jm_cw iX11_state 1 := ⟨jm_tw (n := 451) (by decide +kernel) rfl, jm_tw (n := 1) (by decide +kernel) rfl, ⟨by decide +kernel, by decide +kernel, by decide +kernel⟩, by decide⟩
theorem vwX11_state : Cond.instanceMethod iX11_state.1 ∈ jm_T ∧ Cond.selects iX11_state.1.cls iX11_state.1 iX11_state.1 ∈ jm_T := ⟨jm_tw (n := 449) (by decide +kernel) rfl, jm_tw (n := 450) (by decide +kernel) rfl⟩
theorem cwX11_witness : jm_cw iX11_witness 3 := ⟨jm_tw (n := 459) (by decide +kernel) rfl, jm_tw (n := 1) (by decide +kernel) rfl, ⟨by decide +kernel, by decide +kernel, by decide +kernel⟩, by decide⟩
theorem vwX11_witness : Cond.instanceMethod iX11_witness.1 ∈ jm_T ∧ Cond.selects iX11_witness.1.cls iX11_witness.1 iX11_witness.1 ∈ jm_T := ⟨jm_tw (n := 457) (by decide +kernel) rfl, jm_tw (n := 458) (by decide +kernel) rfl⟩
theorem cwX11_claim : jm_cw iX11_claim 3 := ⟨jm_tw (n := 473) (by decide +kernel) rfl, jm_tw (n := 1) (by decide +kernel) rfl, ⟨by decide +kernel, by decide +kernel, by decide +kernel⟩, by decide⟩
theorem vwX11_claim : Cond.instanceMethod iX11_claim.1 ∈ jm_T ∧ Cond.selects iX11_claim.1.cls iX11_claim.1 iX11_claim.1 ∈ jm_T := ⟨jm_tw (n := 471) (by decide +kernel) rfl, jm_tw (n := 472) (by decide +kernel) rfl⟩
theorem cwX11_set : jm_cw iX11_set 3 := ⟨jm_tw (n := 484) (by decide +kernel) rfl, jm_tw (n := 1) (by decide +kernel) rfl, ⟨by decide +kernel, by decide +kernel, by decide +kernel⟩, by decide⟩
theorem vwX11_set : Cond.instanceMethod iX11_set.1 ∈ jm_T ∧ Cond.selects iX11_set.1.cls iX11_set.1 iX11_set.1 ∈ jm_T := ⟨jm_tw (n := 482) (by decide +kernel) rfl, jm_tw (n := 483) (by decide +kernel) rfl⟩
theorem cwX11_feed : jm_cw iX11_feed 5 := ⟨jm_tw (n := 496) (by decide +kernel) rfl, jm_tw (n := 1) (by decide +kernel) rfl, ⟨by decide +kernel, by decide +kernel, by decide +kernel⟩, by decide⟩
theorem vwX11_feed : Cond.instanceMethod iX11_feed.1 ∈ jm_T ∧ Cond.selects iX11_feed.1.cls iX11_feed.1 iX11_feed.1 ∈ jm_T := ⟨jm_tw (n := 494) (by decide +kernel) rfl, jm_tw (n := 495) (by decide +kernel) rfl⟩
theorem cwX11_end : jm_cw iX11_end 1 := ⟨jm_tw (n := 508) (by decide +kernel) rfl, jm_tw (n := 1) (by decide +kernel) rfl, ⟨by decide +kernel, by decide +kernel, by decide +kernel⟩, by decide⟩
theorem vwX11_end : Cond.instanceMethod iX11_end.1 ∈ jm_T ∧ Cond.selects iX11_end.1.cls iX11_end.1 iX11_end.1 ∈ jm_T := ⟨jm_tw (n := 506) (by decide +kernel) rfl, jm_tw (n := 507) (by decide +kernel) rfl⟩
theorem cwX11_text : jm_cw iX11_text 1 := ⟨jm_tw (n := 512) (by decide +kernel) rfl, jm_tw (n := 1) (by decide +kernel) rfl, ⟨by decide +kernel, by decide +kernel, by decide +kernel⟩, by decide⟩
theorem vwX11_text : Cond.instanceMethod iX11_text.1 ∈ jm_T ∧ Cond.selects iX11_text.1.cls iX11_text.1 iX11_text.1 ∈ jm_T := ⟨jm_tw (n := 510) (by decide +kernel) rfl, jm_tw (n := 511) (by decide +kernel) rfl⟩
theorem cwX11_fault : jm_cw iX11_fault 1 := ⟨jm_tw (n := 764) (by decide +kernel) rfl, jm_tw (n := 1) (by decide +kernel) rfl, ⟨by decide +kernel, by decide +kernel, by decide +kernel⟩, by decide⟩
theorem vwX11_fault : Cond.instanceMethod iX11_fault.1 ∈ jm_T ∧ Cond.selects iX11_fault.1.cls iX11_fault.1 iX11_fault.1 ∈ jm_T := ⟨jm_tw (n := 762) (by decide +kernel) rfl, jm_tw (n := 763) (by decide +kernel) rfl⟩
theorem cwX11_call : jm_cw iX11_call 3 := ⟨jm_tw (n := 768) (by decide +kernel) rfl, jm_tw (n := 1) (by decide +kernel) rfl, ⟨by decide +kernel, by decide +kernel, by decide +kernel⟩, by decide⟩
theorem vwX11_call : Cond.instanceMethod iX11_call.1 ∈ jm_T ∧ Cond.selects iX11_call.1.cls iX11_call.1 iX11_call.1 ∈ jm_T := ⟨jm_tw (n := 766) (by decide +kernel) rfl, jm_tw (n := 767) (by decide +kernel) rfl⟩
theorem cwX11_cross : jm_cw iX11_cross 1 := ⟨jm_tw (n := 902) (by decide +kernel) rfl, jm_tw (n := 1) (by decide +kernel) rfl, ⟨by decide +kernel, by decide +kernel, by decide +kernel⟩, by decide⟩
theorem vwX11_cross : Cond.instanceMethod iX11_cross.1 ∈ jm_T ∧ Cond.selects iX11_cross.1.cls iX11_cross.1 iX11_cross.1 ∈ jm_T := ⟨jm_tw (n := 900) (by decide +kernel) rfl, jm_tw (n := 901) (by decide +kernel) rfl⟩
theorem cwX11_strike : jm_cw iX11_strike 1 := ⟨jm_tw (n := 910) (by decide +kernel) rfl, jm_tw (n := 1) (by decide +kernel) rfl, ⟨by decide +kernel, by decide +kernel, by decide +kernel⟩, by decide⟩
theorem vwX11_strike : Cond.instanceMethod iX11_strike.1 ∈ jm_T ∧ Cond.selects iX11_strike.1.cls iX11_strike.1 iX11_strike.1 ∈ jm_T := ⟨jm_tw (n := 908) (by decide +kernel) rfl, jm_tw (n := 909) (by decide +kernel) rfl⟩
theorem cwX11_days : jm_cw iX11_days 1 := ⟨jm_tw (n := 924) (by decide +kernel) rfl, jm_tw (n := 1) (by decide +kernel) rfl, ⟨by decide +kernel, by decide +kernel, by decide +kernel⟩, by decide⟩
theorem vwX11_days : Cond.instanceMethod iX11_days.1 ∈ jm_T ∧ Cond.selects iX11_days.1.cls iX11_days.1 iX11_days.1 ∈ jm_T := ⟨jm_tw (n := 922) (by decide +kernel) rfl, jm_tw (n := 923) (by decide +kernel) rfl⟩
theorem cwX11_trial : jm_cw iX11_trial 0 := ⟨jm_tw (n := 937) (by decide +kernel) rfl, jm_tw (n := 1) (by decide +kernel) rfl, ⟨by decide +kernel, by decide +kernel, by decide +kernel⟩, by decide⟩
theorem vwX11_trial : Cond.instanceMethod iX11_trial.1 ∈ jm_T ∧ Cond.selects iX11_trial.1.cls iX11_trial.1 iX11_trial.1 ∈ jm_T := ⟨jm_tw (n := 935) (by decide +kernel) rfl, jm_tw (n := 936) (by decide +kernel) rfl⟩
theorem cwX11_of : jm_cw iX11_of 2 := ⟨jm_tw (n := 953) (by decide +kernel) rfl, jm_tw (n := 1) (by decide +kernel) rfl, ⟨by decide +kernel, by decide +kernel, by decide +kernel⟩, by decide⟩
theorem vwX11_of : Cond.instanceMethod iX11_of.1 ∈ jm_T ∧ Cond.selects iX11_of.1.cls iX11_of.1 iX11_of.1 ∈ jm_T := ⟨jm_tw (n := 951) (by decide +kernel) rfl, jm_tw (n := 952) (by decide +kernel) rfl⟩
theorem cwX11_testimony : jm_cw iX11_testimony 2 := ⟨jm_tw (n := 960) (by decide +kernel) rfl, jm_tw (n := 1) (by decide +kernel) rfl, ⟨by decide +kernel, by decide +kernel, by decide +kernel⟩, by decide⟩
theorem vwX11_testimony : Cond.instanceMethod iX11_testimony.1 ∈ jm_T ∧ Cond.selects iX11_testimony.1.cls iX11_testimony.1 iX11_testimony.1 ∈ jm_T := ⟨jm_tw (n := 958) (by decide +kernel) rfl, jm_tw (n := 959) (by decide +kernel) rfl⟩
theorem cwX11_bar : jm_cw iX11_bar 1 := ⟨jm_tw (n := 973) (by decide +kernel) rfl, jm_tw (n := 1) (by decide +kernel) rfl, ⟨by decide +kernel, by decide +kernel, by decide +kernel⟩, by decide⟩
theorem vwX11_bar : Cond.instanceMethod iX11_bar.1 ∈ jm_T ∧ Cond.selects iX11_bar.1.cls iX11_bar.1 iX11_bar.1 ∈ jm_T := ⟨jm_tw (n := 971) (by decide +kernel) rfl, jm_tw (n := 972) (by decide +kernel) rfl⟩
theorem cwX11_motive : jm_cw iX11_motive 2 := ⟨jm_tw (n := 977) (by decide +kernel) rfl, jm_tw (n := 1) (by decide +kernel) rfl, ⟨by decide +kernel, by decide +kernel, by decide +kernel⟩, by decide⟩
theorem vwX11_motive : Cond.instanceMethod iX11_motive.1 ∈ jm_T ∧ Cond.selects iX11_motive.1.cls iX11_motive.1 iX11_motive.1 ∈ jm_T := ⟨jm_tw (n := 975) (by decide +kernel) rfl, jm_tw (n := 976) (by decide +kernel) rfl⟩
theorem cwX11_book : jm_cw iX11_book 2 := ⟨jm_tw (n := 982) (by decide +kernel) rfl, jm_tw (n := 1) (by decide +kernel) rfl, ⟨by decide +kernel, by decide +kernel, by decide +kernel⟩, by decide⟩
theorem vwX11_book : Cond.instanceMethod iX11_book.1 ∈ jm_T ∧ Cond.selects iX11_book.1.cls iX11_book.1 iX11_book.1 ∈ jm_T := ⟨jm_tw (n := 980) (by decide +kernel) rfl, jm_tw (n := 981) (by decide +kernel) rfl⟩
theorem cwX11_keys : jm_cw iX11_keys 3 := ⟨jm_tw (n := 986) (by decide +kernel) rfl, jm_tw (n := 1) (by decide +kernel) rfl, ⟨by decide +kernel, by decide +kernel, by decide +kernel⟩, by decide⟩
theorem vwX11_keys : Cond.instanceMethod iX11_keys.1 ∈ jm_T ∧ Cond.selects iX11_keys.1.cls iX11_keys.1 iX11_keys.1 ∈ jm_T := ⟨jm_tw (n := 984) (by decide +kernel) rfl, jm_tw (n := 985) (by decide +kernel) rfl⟩
theorem cwX11_fair : jm_cw iX11_fair 4 := ⟨jm_tw (n := 998) (by decide +kernel) rfl, jm_tw (n := 1) (by decide +kernel) rfl, ⟨by decide +kernel, by decide +kernel, by decide +kernel⟩, by decide⟩
theorem vwX11_fair : Cond.instanceMethod iX11_fair.1 ∈ jm_T ∧ Cond.selects iX11_fair.1.cls iX11_fair.1 iX11_fair.1 ∈ jm_T := ⟨jm_tw (n := 996) (by decide +kernel) rfl, jm_tw (n := 997) (by decide +kernel) rfl⟩
theorem cwX11_heard : jm_cw iX11_heard 1 := ⟨jm_tw (n := 1014) (by decide +kernel) rfl, jm_tw (n := 1) (by decide +kernel) rfl, ⟨by decide +kernel, by decide +kernel, by decide +kernel⟩, by decide⟩
theorem vwX11_heard : Cond.instanceMethod iX11_heard.1 ∈ jm_T ∧ Cond.selects iX11_heard.1.cls iX11_heard.1 iX11_heard.1 ∈ jm_T := ⟨jm_tw (n := 1012) (by decide +kernel) rfl, jm_tw (n := 1013) (by decide +kernel) rfl⟩
theorem cwX11_read : jm_cw iX11_read 2 := ⟨jm_tw (n := 1018) (by decide +kernel) rfl, jm_tw (n := 1) (by decide +kernel) rfl, ⟨by decide +kernel, by decide +kernel, by decide +kernel⟩, by decide⟩
theorem vwX11_read : Cond.instanceMethod iX11_read.1 ∈ jm_T ∧ Cond.selects iX11_read.1.cls iX11_read.1 iX11_read.1 ∈ jm_T := ⟨jm_tw (n := 1016) (by decide +kernel) rfl, jm_tw (n := 1017) (by decide +kernel) rfl⟩
theorem cwX11_duet : jm_cw iX11_duet 2 := ⟨jm_tw (n := 1037) (by decide +kernel) rfl, jm_tw (n := 1) (by decide +kernel) rfl, ⟨by decide +kernel, by decide +kernel, by decide +kernel⟩, by decide⟩
theorem vwX11_duet : Cond.instanceMethod iX11_duet.1 ∈ jm_T ∧ Cond.selects iX11_duet.1.cls iX11_duet.1 iX11_duet.1 ∈ jm_T := ⟨jm_tw (n := 1035) (by decide +kernel) rfl, jm_tw (n := 1036) (by decide +kernel) rfl⟩
theorem cwX11_best : jm_cw iX11_best 4 := ⟨jm_tw (n := 1063) (by decide +kernel) rfl, jm_tw (n := 1) (by decide +kernel) rfl, ⟨by decide +kernel, by decide +kernel, by decide +kernel⟩, by decide⟩
theorem vwX11_best : Cond.instanceMethod iX11_best.1 ∈ jm_T ∧ Cond.selects iX11_best.1.cls iX11_best.1 iX11_best.1 ∈ jm_T := ⟨jm_tw (n := 1061) (by decide +kernel) rfl, jm_tw (n := 1062) (by decide +kernel) rfl⟩
theorem cwX11_canon : jm_cw iX11_canon 2 := ⟨jm_tw (n := 1077) (by decide +kernel) rfl, jm_tw (n := 1) (by decide +kernel) rfl, ⟨by decide +kernel, by decide +kernel, by decide +kernel⟩, by decide⟩
theorem vwX11_canon : Cond.instanceMethod iX11_canon.1 ∈ jm_T ∧ Cond.selects iX11_canon.1.cls iX11_canon.1 iX11_canon.1 ∈ jm_T := ⟨jm_tw (n := 1075) (by decide +kernel) rfl, jm_tw (n := 1076) (by decide +kernel) rfl⟩
theorem cwX11_weighed : jm_cw iX11_weighed 2 := ⟨jm_tw (n := 1085) (by decide +kernel) rfl, jm_tw (n := 1) (by decide +kernel) rfl, ⟨by decide +kernel, by decide +kernel, by decide +kernel⟩, by decide⟩
theorem vwX11_weighed : Cond.instanceMethod iX11_weighed.1 ∈ jm_T ∧ Cond.selects iX11_weighed.1.cls iX11_weighed.1 iX11_weighed.1 ∈ jm_T := ⟨jm_tw (n := 1083) (by decide +kernel) rfl, jm_tw (n := 1084) (by decide +kernel) rfl⟩
theorem cwX11_found : jm_cw iX11_found 1 := ⟨jm_tw (n := 1102) (by decide +kernel) rfl, jm_tw (n := 1) (by decide +kernel) rfl, ⟨by decide +kernel, by decide +kernel, by decide +kernel⟩, by decide⟩
theorem vwX11_found : Cond.instanceMethod iX11_found.1 ∈ jm_T ∧ Cond.selects iX11_found.1.cls iX11_found.1 iX11_found.1 ∈ jm_T := ⟨jm_tw (n := 1100) (by decide +kernel) rfl, jm_tw (n := 1101) (by decide +kernel) rfl⟩
theorem cwX11_calls : jm_cw iX11_calls 3 := ⟨jm_tw (n := 1115) (by decide +kernel) rfl, jm_tw (n := 1) (by decide +kernel) rfl, ⟨by decide +kernel, by decide +kernel, by decide +kernel⟩, by decide⟩
theorem vwX11_calls : Cond.instanceMethod iX11_calls.1 ∈ jm_T ∧ Cond.selects iX11_calls.1.cls iX11_calls.1 iX11_calls.1 ∈ jm_T := ⟨jm_tw (n := 1113) (by decide +kernel) rfl, jm_tw (n := 1114) (by decide +kernel) rfl⟩
theorem cwX11_choir : jm_cw iX11_choir 1 := ⟨jm_tw (n := 1141) (by decide +kernel) rfl, jm_tw (n := 1) (by decide +kernel) rfl, ⟨by decide +kernel, by decide +kernel, by decide +kernel⟩, by decide⟩
theorem vwX11_choir : Cond.instanceMethod iX11_choir.1 ∈ jm_T ∧ Cond.selects iX11_choir.1.cls iX11_choir.1 iX11_choir.1 ∈ jm_T := ⟨jm_tw (n := 1139) (by decide +kernel) rfl, jm_tw (n := 1140) (by decide +kernel) rfl⟩
theorem cwX11_worlds : jm_cw iX11_worlds 2 := ⟨jm_tw (n := 1161) (by decide +kernel) rfl, jm_tw (n := 1) (by decide +kernel) rfl, ⟨by decide +kernel, by decide +kernel, by decide +kernel⟩, by decide⟩
theorem vwX11_worlds : Cond.instanceMethod iX11_worlds.1 ∈ jm_T ∧ Cond.selects iX11_worlds.1.cls iX11_worlds.1 iX11_worlds.1 ∈ jm_T := ⟨jm_tw (n := 1159) (by decide +kernel) rfl, jm_tw (n := 1160) (by decide +kernel) rfl⟩
theorem cwX11_chord : jm_cw iX11_chord 6 := ⟨jm_tw (n := 1189) (by decide +kernel) rfl, jm_tw (n := 1) (by decide +kernel) rfl, ⟨by decide +kernel, by decide +kernel, by decide +kernel⟩, by decide⟩
theorem vwX11_chord : Cond.instanceMethod iX11_chord.1 ∈ jm_T ∧ Cond.selects iX11_chord.1.cls iX11_chord.1 iX11_chord.1 ∈ jm_T := ⟨jm_tw (n := 1187) (by decide +kernel) rfl, jm_tw (n := 1188) (by decide +kernel) rfl⟩
theorem cwX11_undo : jm_cw iX11_undo 0 := ⟨jm_tw (n := 1221) (by decide +kernel) rfl, jm_tw (n := 1) (by decide +kernel) rfl, ⟨by decide +kernel, by decide +kernel, by decide +kernel⟩, by decide⟩
theorem vwX11_undo : Cond.instanceMethod iX11_undo.1 ∈ jm_T ∧ Cond.selects iX11_undo.1.cls iX11_undo.1 iX11_undo.1 ∈ jm_T := ⟨jm_tw (n := 1219) (by decide +kernel) rfl, jm_tw (n := 1220) (by decide +kernel) rfl⟩
theorem cwX11_image : jm_cw iX11_image 1 := ⟨jm_tw (n := 1225) (by decide +kernel) rfl, jm_tw (n := 1) (by decide +kernel) rfl, ⟨by decide +kernel, by decide +kernel, by decide +kernel⟩, by decide⟩
theorem vwX11_image : Cond.instanceMethod iX11_image.1 ∈ jm_T ∧ Cond.selects iX11_image.1.cls iX11_image.1 iX11_image.1 ∈ jm_T := ⟨jm_tw (n := 1223) (by decide +kernel) rfl, jm_tw (n := 1224) (by decide +kernel) rfl⟩
theorem cwX11_look : jm_cw iX11_look 1 := ⟨jm_tw (n := 1237) (by decide +kernel) rfl, jm_tw (n := 1) (by decide +kernel) rfl, ⟨by decide +kernel, by decide +kernel, by decide +kernel⟩, by decide⟩
theorem vwX11_look : Cond.instanceMethod iX11_look.1 ∈ jm_T ∧ Cond.selects iX11_look.1.cls iX11_look.1 iX11_look.1 ∈ jm_T := ⟨jm_tw (n := 1235) (by decide +kernel) rfl, jm_tw (n := 1236) (by decide +kernel) rfl⟩
theorem cwX11_setOfBench : jm_cw iX11_setOfBench 2 := ⟨jm_tw (n := 492) (by decide +kernel) rfl, jm_tw (n := 1) (by decide +kernel) rfl, ⟨by decide +kernel, by decide +kernel, by decide +kernel⟩, by decide⟩
theorem vwX11_setOfBench : Cond.instanceMethod iX11_setOfBench.1 ∈ jm_T ∧ Cond.selects iX11_setOfBench.1.cls iX11_setOfBench.1 iX11_setOfBench.1 ∈ jm_T := ⟨jm_tw (n := 491) (by decide +kernel) rfl, jm_tp (n := 2) (q := (yX11_setOfBench, _)) (by rfl)⟩
theorem cwX11_setOfWitness : jm_cw iX11_setOfWitness 3 := ⟨jm_tw (n := 488) (by decide +kernel) rfl, jm_tw (n := 1) (by decide +kernel) rfl, ⟨by decide +kernel, by decide +kernel, by decide +kernel⟩, by decide⟩
theorem vwX11_setOfWitness : Cond.instanceMethod iX11_setOfWitness.1 ∈ jm_T ∧ Cond.selects iX11_setOfWitness.1.cls iX11_setOfWitness.1 iX11_setOfWitness.1 ∈ jm_T := ⟨jm_tw (n := 487) (by decide +kernel) rfl, jm_tp (n := 1) (q := (yX11_setOfWitness, _)) (by rfl)⟩
theorem cwX11_adoptMotives : jm_cw iX11_adoptMotives 0 := ⟨jm_tw (n := 637) (by decide +kernel) rfl, jm_tw (n := 1) (by decide +kernel) rfl, ⟨by decide +kernel, by decide +kernel, by decide +kernel⟩, by decide⟩
theorem vwX11_adoptMotives : Cond.instanceMethod iX11_adoptMotives.1 ∈ jm_T ∧ Cond.selects iX11_adoptMotives.1.cls iX11_adoptMotives.1 iX11_adoptMotives.1 ∈ jm_T := ⟨jm_tw (n := 636) (by decide +kernel) rfl, jm_tp (n := 9) (q := (yX11_adoptMotives, _)) (by rfl)⟩
theorem cwX11_adoptLaw : jm_cw iX11_adoptLaw 0 := ⟨jm_tw (n := 702) (by decide +kernel) rfl, jm_tw (n := 1) (by decide +kernel) rfl, ⟨by decide +kernel, by decide +kernel, by decide +kernel⟩, by decide⟩
theorem vwX11_adoptLaw : Cond.instanceMethod iX11_adoptLaw.1 ∈ jm_T ∧ Cond.selects iX11_adoptLaw.1.cls iX11_adoptLaw.1 iX11_adoptLaw.1 ∈ jm_T := ⟨jm_tw (n := 701) (by decide +kernel) rfl, jm_tp (n := 15) (q := (yX11_adoptLaw, _)) (by rfl)⟩
theorem cwX11_adoptPlan : jm_cw iX11_adoptPlan 0 := ⟨jm_tw (n := 754) (by decide +kernel) rfl, jm_tw (n := 1) (by decide +kernel) rfl, ⟨by decide +kernel, by decide +kernel, by decide +kernel⟩, by decide⟩
theorem vwX11_adoptPlan : Cond.instanceMethod iX11_adoptPlan.1 ∈ jm_T ∧ Cond.selects iX11_adoptPlan.1.cls iX11_adoptPlan.1 iX11_adoptPlan.1 ∈ jm_T := ⟨jm_tw (n := 753) (by decide +kernel) rfl, jm_tp (n := 24) (q := (yX11_adoptPlan, _)) (by rfl)⟩
theorem cwX11_keepCourt : jm_cw iX11_keepCourt 0 := ⟨jm_tw (n := 823) (by decide +kernel) rfl, jm_tw (n := 1) (by decide +kernel) rfl, ⟨by decide +kernel, by decide +kernel, by decide +kernel⟩, by decide⟩
theorem vwX11_keepCourt : Cond.instanceMethod iX11_keepCourt.1 ∈ jm_T ∧ Cond.selects iX11_keepCourt.1.cls iX11_keepCourt.1 iX11_keepCourt.1 ∈ jm_T := ⟨jm_tw (n := 822) (by decide +kernel) rfl, jm_tp (n := 26) (q := (yX11_keepCourt, _)) (by rfl)⟩
theorem cwX11_forgetDeeds : jm_cw iX11_forgetDeeds 0 := ⟨jm_tw (n := 455) (by decide +kernel) rfl, jm_tw (n := 1) (by decide +kernel) rfl, ⟨by decide +kernel, by decide +kernel, by decide +kernel⟩, by decide⟩
theorem vwX11_forgetDeeds : Cond.instanceMethod iX11_forgetDeeds.1 ∈ jm_T ∧ Cond.selects iX11_forgetDeeds.1.cls iX11_forgetDeeds.1 iX11_forgetDeeds.1 ∈ jm_T := ⟨jm_tw (n := 454) (by decide +kernel) rfl, jm_tp (n := 0) (q := (yX11_forgetDeeds, _)) (by rfl)⟩
theorem cwX11_isWithin : jm_cw iX11_isWithin 3 := ⟨jm_tw (n := 465) (by decide +kernel) rfl, jm_tw (n := 1) (by decide +kernel) rfl, ⟨by decide +kernel, by decide +kernel, by decide +kernel⟩, by decide⟩
theorem vwX11_isWithin : Cond.static iX11_isWithin.1 ∈ jm_T := jm_tw (n := 464) (by decide +kernel) rfl
theorem cwX11_isNote : jm_cw iX11_isNote 1 := ⟨jm_tw (n := 462) (by decide +kernel) rfl, jm_tw (n := 1) (by decide +kernel) rfl, ⟨by decide +kernel, by decide +kernel, by decide +kernel⟩, by decide⟩
theorem vwX11_isNote : Cond.static iX11_isNote.1 ∈ jm_T := jm_tw (n := 461) (by decide +kernel) rfl
theorem cwX11_isFact : jm_cw iX11_isFact 1 := ⟨jm_tw (n := 480) (by decide +kernel) rfl, jm_tw (n := 1) (by decide +kernel) rfl, ⟨by decide +kernel, by decide +kernel, by decide +kernel⟩, by decide⟩
theorem vwX11_isFact : Cond.static iX11_isFact.1 ∈ jm_T := jm_tw (n := 479) (by decide +kernel) rfl
theorem cwX11_isValue : jm_cw iX11_isValue 1 := ⟨jm_tw (n := 1088) (by decide +kernel) rfl, jm_tw (n := 1) (by decide +kernel) rfl, ⟨by decide +kernel, by decide +kernel, by decide +kernel⟩, by decide⟩
theorem vwX11_isValue : Cond.static iX11_isValue.1 ∈ jm_T := jm_tw (n := 1087) (by decide +kernel) rfl
theorem cwX11_held : jm_cw iX11_held 2 := ⟨jm_tw (n := 879) (by decide +kernel) rfl, jm_tw (n := 1) (by decide +kernel) rfl, ⟨by decide +kernel, by decide +kernel, by decide +kernel⟩, by decide⟩
theorem vwX11_held : Cond.static iX11_held.1 ∈ jm_T := jm_tw (n := 878) (by decide +kernel) rfl
theorem cwX12_isIn : jm_cw iX12_isIn 3 := ⟨jm_tw (n := 1437) (by decide +kernel) rfl, jm_tw (n := 13) (by decide +kernel) rfl, ⟨by decide +kernel, by decide +kernel, by decide +kernel⟩, by decide⟩
theorem vwX12_isIn : Cond.instanceMethod iX12_isIn.1 ∈ jm_T ∧ Cond.selects iX12_isIn.1.cls iX12_isIn.1 iX12_isIn.1 ∈ jm_T := ⟨jm_tw (n := 1436) (by decide +kernel) rfl, jm_tp (n := 48) (q := (yX12_isIn, _)) (by rfl)⟩
theorem cwX12_held : jm_cw iX12_held 3 := ⟨jm_tw (n := 1465) (by decide +kernel) rfl, jm_tw (n := 13) (by decide +kernel) rfl, ⟨by decide +kernel, by decide +kernel, by decide +kernel⟩, by decide⟩
theorem vwX12_held : Cond.instanceMethod iX12_held.1 ∈ jm_T ∧ Cond.selects iX12_held.1.cls iX12_held.1 iX12_held.1 ∈ jm_T := ⟨jm_tw (n := 1464) (by decide +kernel) rfl, jm_tp (n := 53) (q := (yX12_held, _)) (by rfl)⟩
theorem cwX12_greater : jm_cw iX12_greater 2 := ⟨jm_tw (n := 1861) (by decide +kernel) rfl, jm_tw (n := 13) (by decide +kernel) rfl, ⟨by decide +kernel, by decide +kernel, by decide +kernel⟩, by decide⟩
theorem vwX12_greater : Cond.instanceMethod iX12_greater.1 ∈ jm_T ∧ Cond.selects iX12_greater.1.cls iX12_greater.1 iX12_greater.1 ∈ jm_T := ⟨jm_tw (n := 1860) (by decide +kernel) rfl, jm_tp (n := 131) (q := (yX12_greater, _)) (by rfl)⟩
theorem cwX12_lesser : jm_cw iX12_lesser 2 := ⟨jm_tw (n := 1833) (by decide +kernel) rfl, jm_tw (n := 13) (by decide +kernel) rfl, ⟨by decide +kernel, by decide +kernel, by decide +kernel⟩, by decide⟩
theorem vwX12_lesser : Cond.instanceMethod iX12_lesser.1 ∈ jm_T ∧ Cond.selects iX12_lesser.1.cls iX12_lesser.1 iX12_lesser.1 ∈ jm_T := ⟨jm_tw (n := 1832) (by decide +kernel) rfl, jm_tp (n := 126) (q := (yX12_lesser, _)) (by rfl)⟩
theorem cwX12_far : jm_cw iX12_far 2 := ⟨jm_tw (n := 1849) (by decide +kernel) rfl, jm_tw (n := 13) (by decide +kernel) rfl, ⟨by decide +kernel, by decide +kernel, by decide +kernel⟩, by decide⟩
theorem vwX12_far : Cond.instanceMethod iX12_far.1 ∈ jm_T ∧ Cond.selects iX12_far.1.cls iX12_far.1 iX12_far.1 ∈ jm_T := ⟨jm_tw (n := 1848) (by decide +kernel) rfl, jm_tp (n := 129) (q := (yX12_far, _)) (by rfl)⟩
theorem cwX12_onesOf : jm_cw iX12_onesOf 1 := ⟨jm_tw (n := 1901) (by decide +kernel) rfl, jm_tw (n := 13) (by decide +kernel) rfl, ⟨by decide +kernel, by decide +kernel, by decide +kernel⟩, by decide⟩
theorem vwX12_onesOf : Cond.instanceMethod iX12_onesOf.1 ∈ jm_T ∧ Cond.selects iX12_onesOf.1.cls iX12_onesOf.1 iX12_onesOf.1 ∈ jm_T := ⟨jm_tw (n := 1900) (by decide +kernel) rfl, jm_tp (n := 137) (q := (yX12_onesOf, _)) (by rfl)⟩
theorem cwX12_keepsAhead : jm_cw iX12_keepsAhead 0 := ⟨jm_tw (n := 1673) (by decide +kernel) rfl, jm_tw (n := 13) (by decide +kernel) rfl, ⟨by decide +kernel, by decide +kernel, by decide +kernel⟩, by decide⟩
theorem vwX12_keepsAhead : Cond.instanceMethod iX12_keepsAhead.1 ∈ jm_T ∧ Cond.selects iX12_keepsAhead.1.cls iX12_keepsAhead.1 iX12_keepsAhead.1 ∈ jm_T := ⟨jm_tw (n := 1672) (by decide +kernel) rfl, jm_tp (n := 100) (q := (yX12_keepsAhead, _)) (by rfl)⟩
theorem cwX12_undo : jm_cw iX12_undo 0 := ⟨jm_tw (n := 1425) (by decide +kernel) rfl, jm_tw (n := 13) (by decide +kernel) rfl, ⟨by decide +kernel, by decide +kernel, by decide +kernel⟩, by decide⟩
theorem vwX12_undo : Cond.instanceMethod iX12_undo.1 ∈ jm_T ∧ Cond.selects iX12_undo.1.cls iX12_undo.1 iX12_undo.1 ∈ jm_T := ⟨jm_tw (n := 1423) (by decide +kernel) rfl, jm_tw (n := 1424) (by decide +kernel) rfl⟩
theorem cwX12_state : jm_cw iX12_state 1 := ⟨jm_tw (n := 1429) (by decide +kernel) rfl, jm_tw (n := 13) (by decide +kernel) rfl, ⟨by decide +kernel, by decide +kernel, by decide +kernel⟩, by decide⟩
theorem vwX12_state : Cond.instanceMethod iX12_state.1 ∈ jm_T ∧ Cond.selects iX12_state.1.cls iX12_state.1 iX12_state.1 ∈ jm_T := ⟨jm_tw (n := 1427) (by decide +kernel) rfl, jm_tw (n := 1428) (by decide +kernel) rfl⟩
theorem cwX12_draw : jm_cw iX12_draw 1 := ⟨jm_tw (n := 1685) (by decide +kernel) rfl, jm_tw (n := 13) (by decide +kernel) rfl, ⟨by decide +kernel, by decide +kernel, by decide +kernel⟩, by decide⟩
theorem vwX12_draw : Cond.instanceMethod iX12_draw.1 ∈ jm_T ∧ Cond.selects iX12_draw.1.cls iX12_draw.1 iX12_draw.1 ∈ jm_T := ⟨jm_tw (n := 1684) (by decide +kernel) rfl, jm_tp (n := 103) (q := (yX12_draw, _)) (by rfl)⟩
theorem cwX12_soundNow : jm_cw iX12_soundNow 0 := ⟨jm_tw (n := 1845) (by decide +kernel) rfl, jm_tw (n := 13) (by decide +kernel) rfl, ⟨by decide +kernel, by decide +kernel, by decide +kernel⟩, by decide⟩
theorem vwX12_soundNow : Cond.instanceMethod iX12_soundNow.1 ∈ jm_T ∧ Cond.selects iX12_soundNow.1.cls iX12_soundNow.1 iX12_soundNow.1 ∈ jm_T := ⟨jm_tw (n := 1844) (by decide +kernel) rfl, jm_tp (n := 128) (q := (yX12_soundNow, _)) (by rfl)⟩
theorem cwX12_needNow : jm_cw iX12_needNow 0 := ⟨jm_tw (n := 1889) (by decide +kernel) rfl, jm_tw (n := 13) (by decide +kernel) rfl, ⟨by decide +kernel, by decide +kernel, by decide +kernel⟩, by decide⟩
theorem vwX12_needNow : Cond.instanceMethod iX12_needNow.1 ∈ jm_T ∧ Cond.selects iX12_needNow.1.cls iX12_needNow.1 iX12_needNow.1 ∈ jm_T := ⟨jm_tw (n := 1888) (by decide +kernel) rfl, jm_tp (n := 135) (q := (yX12_needNow, _)) (by rfl)⟩
theorem cwX12_flatsNow : jm_cw iX12_flatsNow 0 := ⟨jm_tw (n := 1877) (by decide +kernel) rfl, jm_tw (n := 13) (by decide +kernel) rfl, ⟨by decide +kernel, by decide +kernel, by decide +kernel⟩, by decide⟩
theorem vwX12_flatsNow : Cond.instanceMethod iX12_flatsNow.1 ∈ jm_T ∧ Cond.selects iX12_flatsNow.1.cls iX12_flatsNow.1 iX12_flatsNow.1 ∈ jm_T := ⟨jm_tw (n := 1876) (by decide +kernel) rfl, jm_tp (n := 133) (q := (yX12_flatsNow, _)) (by rfl)⟩
theorem cwX12_isWitness : jm_cw iX12_isWitness 1 := ⟨jm_tw (n := 1445) (by decide +kernel) rfl, jm_tw (n := 13) (by decide +kernel) rfl, ⟨by decide +kernel, by decide +kernel, by decide +kernel⟩, by decide⟩
theorem vwX12_isWitness : Cond.instanceMethod iX12_isWitness.1 ∈ jm_T ∧ Cond.selects iX12_isWitness.1.cls iX12_isWitness.1 iX12_isWitness.1 ∈ jm_T := ⟨jm_tw (n := 1444) (by decide +kernel) rfl, jm_tp (n := 49) (q := (yX12_isWitness, _)) (by rfl)⟩
theorem cwX12_isFact : jm_cw iX12_isFact 1 := ⟨jm_tw (n := 1449) (by decide +kernel) rfl, jm_tw (n := 13) (by decide +kernel) rfl, ⟨by decide +kernel, by decide +kernel, by decide +kernel⟩, by decide⟩
theorem vwX12_isFact : Cond.instanceMethod iX12_isFact.1 ∈ jm_T ∧ Cond.selects iX12_isFact.1.cls iX12_isFact.1 iX12_isFact.1 ∈ jm_T := ⟨jm_tw (n := 1448) (by decide +kernel) rfl, jm_tp (n := 50) (q := (yX12_isFact, _)) (by rfl)⟩
theorem cwX12_nerveOf : jm_cw iX12_nerveOf 1 := ⟨jm_tw (n := 1699) (by decide +kernel) rfl, jm_tw (n := 13) (by decide +kernel) rfl, ⟨by decide +kernel, by decide +kernel, by decide +kernel⟩, by decide⟩
theorem vwX12_nerveOf : Cond.instanceMethod iX12_nerveOf.1 ∈ jm_T ∧ Cond.selects iX12_nerveOf.1.cls iX12_nerveOf.1 iX12_nerveOf.1 ∈ jm_T := ⟨jm_tw (n := 1698) (by decide +kernel) rfl, jm_tp (n := 106) (q := (yX12_nerveOf, _)) (by rfl)⟩
theorem cwX12_nerveBe : jm_cw iX12_nerveBe 2 := ⟨jm_tw (n := 1461) (by decide +kernel) rfl, jm_tw (n := 13) (by decide +kernel) rfl, ⟨by decide +kernel, by decide +kernel, by decide +kernel⟩, by decide⟩
theorem vwX12_nerveBe : Cond.instanceMethod iX12_nerveBe.1 ∈ jm_T ∧ Cond.selects iX12_nerveBe.1.cls iX12_nerveBe.1 iX12_nerveBe.1 ∈ jm_T := ⟨jm_tw (n := 1460) (by decide +kernel) rfl, jm_tp (n := 52) (q := (yX12_nerveBe, _)) (by rfl)⟩
theorem cwX12_claimOf : jm_cw iX12_claimOf 2 := ⟨jm_tw (n := 1649) (by decide +kernel) rfl, jm_tw (n := 13) (by decide +kernel) rfl, ⟨by decide +kernel, by decide +kernel, by decide +kernel⟩, by decide⟩
theorem vwX12_claimOf : Cond.instanceMethod iX12_claimOf.1 ∈ jm_T ∧ Cond.selects iX12_claimOf.1.cls iX12_claimOf.1 iX12_claimOf.1 ∈ jm_T := ⟨jm_tw (n := 1648) (by decide +kernel) rfl, jm_tp (n := 94) (q := (yX12_claimOf, _)) (by rfl)⟩
theorem cwX12_witness : jm_cw iX12_witness 3 := ⟨jm_tw (n := 1433) (by decide +kernel) rfl, jm_tw (n := 13) (by decide +kernel) rfl, ⟨by decide +kernel, by decide +kernel, by decide +kernel⟩, by decide⟩
theorem vwX12_witness : Cond.instanceMethod iX12_witness.1 ∈ jm_T ∧ Cond.selects iX12_witness.1.cls iX12_witness.1 iX12_witness.1 ∈ jm_T := ⟨jm_tw (n := 1431) (by decide +kernel) rfl, jm_tw (n := 1432) (by decide +kernel) rfl⟩
theorem cwX12_claim : jm_cw iX12_claim 3 := ⟨jm_tw (n := 1441) (by decide +kernel) rfl, jm_tw (n := 13) (by decide +kernel) rfl, ⟨by decide +kernel, by decide +kernel, by decide +kernel⟩, by decide⟩
theorem vwX12_claim : Cond.instanceMethod iX12_claim.1 ∈ jm_T ∧ Cond.selects iX12_claim.1.cls iX12_claim.1 iX12_claim.1 ∈ jm_T := ⟨jm_tw (n := 1439) (by decide +kernel) rfl, jm_tw (n := 1440) (by decide +kernel) rfl⟩
theorem cwX12_canSet : jm_cw iX12_canSet 3 := ⟨jm_tw (n := 1457) (by decide +kernel) rfl, jm_tw (n := 13) (by decide +kernel) rfl, ⟨by decide +kernel, by decide +kernel, by decide +kernel⟩, by decide⟩
theorem vwX12_canSet : Cond.instanceMethod iX12_canSet.1 ∈ jm_T ∧ Cond.selects iX12_canSet.1.cls iX12_canSet.1 iX12_canSet.1 ∈ jm_T := ⟨jm_tw (n := 1456) (by decide +kernel) rfl, jm_tp (n := 51) (q := (yX12_canSet, _)) (by rfl)⟩
theorem cwX12_set : jm_cw iX12_set 3 := ⟨jm_tw (n := 1453) (by decide +kernel) rfl, jm_tw (n := 13) (by decide +kernel) rfl, ⟨by decide +kernel, by decide +kernel, by decide +kernel⟩, by decide⟩
theorem vwX12_set : Cond.instanceMethod iX12_set.1 ∈ jm_T ∧ Cond.selects iX12_set.1.cls iX12_set.1 iX12_set.1 ∈ jm_T := ⟨jm_tw (n := 1451) (by decide +kernel) rfl, jm_tw (n := 1452) (by decide +kernel) rfl⟩
theorem cwX12_types : jm_cw iX12_types 1 := ⟨jm_tw (n := 1473) (by decide +kernel) rfl, jm_tw (n := 13) (by decide +kernel) rfl, ⟨by decide +kernel, by decide +kernel, by decide +kernel⟩, by decide⟩
theorem vwX12_types : Cond.instanceMethod iX12_types.1 ∈ jm_T ∧ Cond.selects iX12_types.1.cls iX12_types.1 iX12_types.1 ∈ jm_T := ⟨jm_tw (n := 1472) (by decide +kernel) rfl, jm_tp (n := 54) (q := (yX12_types, _)) (by rfl)⟩
theorem cwX12_feed : jm_cw iX12_feed 5 := ⟨jm_tw (n := 1469) (by decide +kernel) rfl, jm_tw (n := 13) (by decide +kernel) rfl, ⟨by decide +kernel, by decide +kernel, by decide +kernel⟩, by decide⟩
theorem vwX12_feed : Cond.instanceMethod iX12_feed.1 ∈ jm_T ∧ Cond.selects iX12_feed.1.cls iX12_feed.1 iX12_feed.1 ∈ jm_T := ⟨jm_tw (n := 1467) (by decide +kernel) rfl, jm_tw (n := 1468) (by decide +kernel) rfl⟩
theorem cwX12_end : jm_cw iX12_end 1 := ⟨jm_tw (n := 1477) (by decide +kernel) rfl, jm_tw (n := 13) (by decide +kernel) rfl, ⟨by decide +kernel, by decide +kernel, by decide +kernel⟩, by decide⟩
theorem vwX12_end : Cond.instanceMethod iX12_end.1 ∈ jm_T ∧ Cond.selects iX12_end.1.cls iX12_end.1 iX12_end.1 ∈ jm_T := ⟨jm_tw (n := 1475) (by decide +kernel) rfl, jm_tw (n := 1476) (by decide +kernel) rfl⟩
theorem cwX12_raw : jm_cw iX12_raw 1 := ⟨jm_tw (n := 1493) (by decide +kernel) rfl, jm_tw (n := 13) (by decide +kernel) rfl, ⟨by decide +kernel, by decide +kernel, by decide +kernel⟩, by decide⟩
theorem vwX12_raw : Cond.instanceMethod iX12_raw.1 ∈ jm_T ∧ Cond.selects iX12_raw.1.cls iX12_raw.1 iX12_raw.1 ∈ jm_T := ⟨jm_tw (n := 1492) (by decide +kernel) rfl, jm_tp (n := 57) (q := (yX12_raw, _)) (by rfl)⟩
theorem cwX12_isLetter : jm_cw iX12_isLetter 1 := ⟨jm_tw (n := 1497) (by decide +kernel) rfl, jm_tw (n := 13) (by decide +kernel) rfl, ⟨by decide +kernel, by decide +kernel, by decide +kernel⟩, by decide⟩
theorem vwX12_isLetter : Cond.instanceMethod iX12_isLetter.1 ∈ jm_T ∧ Cond.selects iX12_isLetter.1.cls iX12_isLetter.1 iX12_isLetter.1 ∈ jm_T := ⟨jm_tw (n := 1496) (by decide +kernel) rfl, jm_tp (n := 58) (q := (yX12_isLetter, _)) (by rfl)⟩
theorem cwX12_isDigit : jm_cw iX12_isDigit 1 := ⟨jm_tw (n := 1505) (by decide +kernel) rfl, jm_tw (n := 13) (by decide +kernel) rfl, ⟨by decide +kernel, by decide +kernel, by decide +kernel⟩, by decide⟩
theorem vwX12_isDigit : Cond.instanceMethod iX12_isDigit.1 ∈ jm_T ∧ Cond.selects iX12_isDigit.1.cls iX12_isDigit.1 iX12_isDigit.1 ∈ jm_T := ⟨jm_tw (n := 1504) (by decide +kernel) rfl, jm_tp (n := 60) (q := (yX12_isDigit, _)) (by rfl)⟩
theorem cwX12_isMarkSign : jm_cw iX12_isMarkSign 1 := ⟨jm_tw (n := 1509) (by decide +kernel) rfl, jm_tw (n := 13) (by decide +kernel) rfl, ⟨by decide +kernel, by decide +kernel, by decide +kernel⟩, by decide⟩
theorem vwX12_isMarkSign : Cond.instanceMethod iX12_isMarkSign.1 ∈ jm_T ∧ Cond.selects iX12_isMarkSign.1.cls iX12_isMarkSign.1 iX12_isMarkSign.1 ∈ jm_T := ⟨jm_tw (n := 1508) (by decide +kernel) rfl, jm_tp (n := 61) (q := (yX12_isMarkSign, _)) (by rfl)⟩
theorem cwX12_wordAt : jm_cw iX12_wordAt 2 := ⟨jm_tw (n := 1501) (by decide +kernel) rfl, jm_tw (n := 13) (by decide +kernel) rfl, ⟨by decide +kernel, by decide +kernel, by decide +kernel⟩, by decide⟩
theorem vwX12_wordAt : Cond.instanceMethod iX12_wordAt.1 ∈ jm_T ∧ Cond.selects iX12_wordAt.1.cls iX12_wordAt.1 iX12_wordAt.1 ∈ jm_T := ⟨jm_tw (n := 1500) (by decide +kernel) rfl, jm_tp (n := 59) (q := (yX12_wordAt, _)) (by rfl)⟩
theorem cwX12_reads : jm_cw iX12_reads 0 := ⟨jm_tw (n := 1489) (by decide +kernel) rfl, jm_tw (n := 13) (by decide +kernel) rfl, ⟨by decide +kernel, by decide +kernel, by decide +kernel⟩, by decide⟩
theorem vwX12_reads : Cond.instanceMethod iX12_reads.1 ∈ jm_T ∧ Cond.selects iX12_reads.1.cls iX12_reads.1 iX12_reads.1 ∈ jm_T := ⟨jm_tw (n := 1488) (by decide +kernel) rfl, jm_tp (n := 56) (q := (yX12_reads, _)) (by rfl)⟩
theorem cwX12_errs : jm_cw iX12_errs 1 := ⟨jm_tw (n := 1521) (by decide +kernel) rfl, jm_tw (n := 13) (by decide +kernel) rfl, ⟨by decide +kernel, by decide +kernel, by decide +kernel⟩, by decide⟩
theorem vwX12_errs : Cond.instanceMethod iX12_errs.1 ∈ jm_T ∧ Cond.selects iX12_errs.1.cls iX12_errs.1 iX12_errs.1 ∈ jm_T := ⟨jm_tw (n := 1520) (by decide +kernel) rfl, jm_tp (n := 64) (q := (yX12_errs, _)) (by rfl)⟩
theorem cwX12_isWord : jm_cw iX12_isWord 1 := ⟨jm_tw (n := 1517) (by decide +kernel) rfl, jm_tw (n := 13) (by decide +kernel) rfl, ⟨by decide +kernel, by decide +kernel, by decide +kernel⟩, by decide⟩
theorem vwX12_isWord : Cond.instanceMethod iX12_isWord.1 ∈ jm_T ∧ Cond.selects iX12_isWord.1.cls iX12_isWord.1 iX12_isWord.1 ∈ jm_T := ⟨jm_tw (n := 1516) (by decide +kernel) rfl, jm_tp (n := 63) (q := (yX12_isWord, _)) (by rfl)⟩
theorem cwX12_isSign : jm_cw iX12_isSign 1 := ⟨jm_tw (n := 1545) (by decide +kernel) rfl, jm_tw (n := 13) (by decide +kernel) rfl, ⟨by decide +kernel, by decide +kernel, by decide +kernel⟩, by decide⟩
theorem vwX12_isSign : Cond.instanceMethod iX12_isSign.1 ∈ jm_T ∧ Cond.selects iX12_isSign.1.cls iX12_isSign.1 iX12_isSign.1 ∈ jm_T := ⟨jm_tw (n := 1544) (by decide +kernel) rfl, jm_tp (n := 70) (q := (yX12_isSign, _)) (by rfl)⟩
theorem cwX12_emits : jm_cw iX12_emits 2 := ⟨jm_tw (n := 1601) (by decide +kernel) rfl, jm_tw (n := 13) (by decide +kernel) rfl, ⟨by decide +kernel, by decide +kernel, by decide +kernel⟩, by decide⟩
theorem vwX12_emits : Cond.instanceMethod iX12_emits.1 ∈ jm_T ∧ Cond.selects iX12_emits.1.cls iX12_emits.1 iX12_emits.1 ∈ jm_T := ⟨jm_tw (n := 1600) (by decide +kernel) rfl, jm_tp (n := 84) (q := (yX12_emits, _)) (by rfl)⟩
theorem cwX12_canAsk : jm_cw iX12_canAsk 1 := ⟨jm_tw (n := 1597) (by decide +kernel) rfl, jm_tw (n := 13) (by decide +kernel) rfl, ⟨by decide +kernel, by decide +kernel, by decide +kernel⟩, by decide⟩
theorem vwX12_canAsk : Cond.instanceMethod iX12_canAsk.1 ∈ jm_T ∧ Cond.selects iX12_canAsk.1.cls iX12_canAsk.1 iX12_canAsk.1 ∈ jm_T := ⟨jm_tw (n := 1596) (by decide +kernel) rfl, jm_tp (n := 83) (q := (yX12_canAsk, _)) (by rfl)⟩
theorem cwX12_readUnit : jm_cw iX12_readUnit 0 := ⟨jm_tw (n := 1593) (by decide +kernel) rfl, jm_tw (n := 13) (by decide +kernel) rfl, ⟨by decide +kernel, by decide +kernel, by decide +kernel⟩, by decide⟩
theorem vwX12_readUnit : Cond.instanceMethod iX12_readUnit.1 ∈ jm_T ∧ Cond.selects iX12_readUnit.1.cls iX12_readUnit.1 iX12_readUnit.1 ∈ jm_T := ⟨jm_tw (n := 1592) (by decide +kernel) rfl, jm_tp (n := 82) (q := (yX12_readUnit, _)) (by rfl)⟩
theorem cwX12_readProduct : jm_cw iX12_readProduct 0 := ⟨jm_tw (n := 1589) (by decide +kernel) rfl, jm_tw (n := 13) (by decide +kernel) rfl, ⟨by decide +kernel, by decide +kernel, by decide +kernel⟩, by decide⟩
theorem vwX12_readProduct : Cond.instanceMethod iX12_readProduct.1 ∈ jm_T ∧ Cond.selects iX12_readProduct.1.cls iX12_readProduct.1 iX12_readProduct.1 ∈ jm_T := ⟨jm_tw (n := 1588) (by decide +kernel) rfl, jm_tp (n := 81) (q := (yX12_readProduct, _)) (by rfl)⟩
theorem cwX12_readSum : jm_cw iX12_readSum 0 := ⟨jm_tw (n := 1585) (by decide +kernel) rfl, jm_tw (n := 13) (by decide +kernel) rfl, ⟨by decide +kernel, by decide +kernel, by decide +kernel⟩, by decide⟩
theorem vwX12_readSum : Cond.instanceMethod iX12_readSum.1 ∈ jm_T ∧ Cond.selects iX12_readSum.1.cls iX12_readSum.1 iX12_readSum.1 ∈ jm_T := ⟨jm_tw (n := 1584) (by decide +kernel) rfl, jm_tp (n := 80) (q := (yX12_readSum, _)) (by rfl)⟩
theorem cwX12_readCompared : jm_cw iX12_readCompared 0 := ⟨jm_tw (n := 1613) (by decide +kernel) rfl, jm_tw (n := 13) (by decide +kernel) rfl, ⟨by decide +kernel, by decide +kernel, by decide +kernel⟩, by decide⟩
theorem vwX12_readCompared : Cond.instanceMethod iX12_readCompared.1 ∈ jm_T ∧ Cond.selects iX12_readCompared.1.cls iX12_readCompared.1 iX12_readCompared.1 ∈ jm_T := ⟨jm_tw (n := 1612) (by decide +kernel) rfl, jm_tp (n := 87) (q := (yX12_readCompared, _)) (by rfl)⟩
theorem cwX12_waits : jm_cw iX12_waits 1 := ⟨jm_tw (n := 1609) (by decide +kernel) rfl, jm_tw (n := 13) (by decide +kernel) rfl, ⟨by decide +kernel, by decide +kernel, by decide +kernel⟩, by decide⟩
theorem vwX12_waits : Cond.instanceMethod iX12_waits.1 ∈ jm_T ∧ Cond.selects iX12_waits.1.cls iX12_waits.1 iX12_waits.1 ∈ jm_T := ⟨jm_tw (n := 1608) (by decide +kernel) rfl, jm_tp (n := 86) (q := (yX12_waits, _)) (by rfl)⟩
theorem cwX12_settles : jm_cw iX12_settles 1 := ⟨jm_tw (n := 1617) (by decide +kernel) rfl, jm_tw (n := 13) (by decide +kernel) rfl, ⟨by decide +kernel, by decide +kernel, by decide +kernel⟩, by decide⟩
theorem vwX12_settles : Cond.instanceMethod iX12_settles.1 ∈ jm_T ∧ Cond.selects iX12_settles.1.cls iX12_settles.1 iX12_settles.1 ∈ jm_T := ⟨jm_tw (n := 1616) (by decide +kernel) rfl, jm_tp (n := 88) (q := (yX12_settles, _)) (by rfl)⟩
theorem cwX12_readAny : jm_cw iX12_readAny 0 := ⟨jm_tw (n := 1605) (by decide +kernel) rfl, jm_tw (n := 13) (by decide +kernel) rfl, ⟨by decide +kernel, by decide +kernel, by decide +kernel⟩, by decide⟩
theorem vwX12_readAny : Cond.instanceMethod iX12_readAny.1 ∈ jm_T ∧ Cond.selects iX12_readAny.1.cls iX12_readAny.1 iX12_readAny.1 ∈ jm_T := ⟨jm_tw (n := 1604) (by decide +kernel) rfl, jm_tp (n := 85) (q := (yX12_readAny, _)) (by rfl)⟩
theorem cwX12_isLineWord : jm_cw iX12_isLineWord 0 := ⟨jm_tw (n := 1581) (by decide +kernel) rfl, jm_tw (n := 13) (by decide +kernel) rfl, ⟨by decide +kernel, by decide +kernel, by decide +kernel⟩, by decide⟩
theorem vwX12_isLineWord : Cond.instanceMethod iX12_isLineWord.1 ∈ jm_T ∧ Cond.selects iX12_isLineWord.1.cls iX12_isLineWord.1 iX12_isLineWord.1 ∈ jm_T := ⟨jm_tw (n := 1580) (by decide +kernel) rfl, jm_tp (n := 79) (q := (yX12_isLineWord, _)) (by rfl)⟩
theorem cwX12_readLaw : jm_cw iX12_readLaw 0 := ⟨jm_tw (n := 1577) (by decide +kernel) rfl, jm_tw (n := 13) (by decide +kernel) rfl, ⟨by decide +kernel, by decide +kernel, by decide +kernel⟩, by decide⟩
theorem vwX12_readLaw : Cond.instanceMethod iX12_readLaw.1 ∈ jm_T ∧ Cond.selects iX12_readLaw.1.cls iX12_readLaw.1 iX12_readLaw.1 ∈ jm_T := ⟨jm_tw (n := 1576) (by decide +kernel) rfl, jm_tp (n := 78) (q := (yX12_readLaw, _)) (by rfl)⟩
theorem cwX12_takesLaw : jm_cw iX12_takesLaw 1 := ⟨jm_tw (n := 1621) (by decide +kernel) rfl, jm_tw (n := 13) (by decide +kernel) rfl, ⟨by decide +kernel, by decide +kernel, by decide +kernel⟩, by decide⟩
theorem vwX12_takesLaw : Cond.instanceMethod iX12_takesLaw.1 ∈ jm_T ∧ Cond.selects iX12_takesLaw.1.cls iX12_takesLaw.1 iX12_takesLaw.1 ∈ jm_T := ⟨jm_tw (n := 1620) (by decide +kernel) rfl, jm_tp (n := 89) (q := (yX12_takesLaw, _)) (by rfl)⟩
theorem cwX12_readNumber : jm_cw iX12_readNumber 2 := ⟨jm_tw (n := 1533) (by decide +kernel) rfl, jm_tw (n := 13) (by decide +kernel) rfl, ⟨by decide +kernel, by decide +kernel, by decide +kernel⟩, by decide⟩
theorem vwX12_readNumber : Cond.instanceMethod iX12_readNumber.1 ∈ jm_T ∧ Cond.selects iX12_readNumber.1.cls iX12_readNumber.1 iX12_readNumber.1 ∈ jm_T := ⟨jm_tw (n := 1532) (by decide +kernel) rfl, jm_tp (n := 67) (q := (yX12_readNumber, _)) (by rfl)⟩
theorem cwX12_readMark : jm_cw iX12_readMark 1 := ⟨jm_tw (n := 1541) (by decide +kernel) rfl, jm_tw (n := 13) (by decide +kernel) rfl, ⟨by decide +kernel, by decide +kernel, by decide +kernel⟩, by decide⟩
theorem vwX12_readMark : Cond.instanceMethod iX12_readMark.1 ∈ jm_T ∧ Cond.selects iX12_readMark.1.cls iX12_readMark.1 iX12_readMark.1 ∈ jm_T := ⟨jm_tw (n := 1540) (by decide +kernel) rfl, jm_tp (n := 69) (q := (yX12_readMark, _)) (by rfl)⟩
theorem cwX12_readTold : jm_cw iX12_readTold 3 := ⟨jm_tw (n := 1529) (by decide +kernel) rfl, jm_tw (n := 13) (by decide +kernel) rfl, ⟨by decide +kernel, by decide +kernel, by decide +kernel⟩, by decide⟩
theorem vwX12_readTold : Cond.instanceMethod iX12_readTold.1 ∈ jm_T ∧ Cond.selects iX12_readTold.1.cls iX12_readTold.1 iX12_readTold.1 ∈ jm_T := ⟨jm_tw (n := 1528) (by decide +kernel) rfl, jm_tp (n := 66) (q := (yX12_readTold, _)) (by rfl)⟩
theorem cwX12_readStep : jm_cw iX12_readStep 1 := ⟨jm_tw (n := 1537) (by decide +kernel) rfl, jm_tw (n := 13) (by decide +kernel) rfl, ⟨by decide +kernel, by decide +kernel, by decide +kernel⟩, by decide⟩
theorem vwX12_readStep : Cond.instanceMethod iX12_readStep.1 ∈ jm_T ∧ Cond.selects iX12_readStep.1.cls iX12_readStep.1 iX12_readStep.1 ∈ jm_T := ⟨jm_tw (n := 1536) (by decide +kernel) rfl, jm_tp (n := 68) (q := (yX12_readStep, _)) (by rfl)⟩
theorem cwX12_readMotive : jm_cw iX12_readMotive 0 := ⟨jm_tw (n := 1525) (by decide +kernel) rfl, jm_tw (n := 13) (by decide +kernel) rfl, ⟨by decide +kernel, by decide +kernel, by decide +kernel⟩, by decide⟩
theorem vwX12_readMotive : Cond.instanceMethod iX12_readMotive.1 ∈ jm_T ∧ Cond.selects iX12_readMotive.1.cls iX12_readMotive.1 iX12_readMotive.1 ∈ jm_T := ⟨jm_tw (n := 1524) (by decide +kernel) rfl, jm_tp (n := 65) (q := (yX12_readMotive, _)) (by rfl)⟩
theorem cwX12_readMotives : jm_cw iX12_readMotives 0 := ⟨jm_tw (n := 1513) (by decide +kernel) rfl, jm_tw (n := 13) (by decide +kernel) rfl, ⟨by decide +kernel, by decide +kernel, by decide +kernel⟩, by decide⟩
theorem vwX12_readMotives : Cond.instanceMethod iX12_readMotives.1 ∈ jm_T ∧ Cond.selects iX12_readMotives.1.cls iX12_readMotives.1 iX12_readMotives.1 ∈ jm_T := ⟨jm_tw (n := 1512) (by decide +kernel) rfl, jm_tp (n := 62) (q := (yX12_readMotives, _)) (by rfl)⟩
theorem cwX12_emitsStep : jm_cw iX12_emitsStep 4 := ⟨jm_tw (n := 1557) (by decide +kernel) rfl, jm_tw (n := 13) (by decide +kernel) rfl, ⟨by decide +kernel, by decide +kernel, by decide +kernel⟩, by decide⟩
theorem vwX12_emitsStep : Cond.instanceMethod iX12_emitsStep.1 ∈ jm_T ∧ Cond.selects iX12_emitsStep.1.cls iX12_emitsStep.1 iX12_emitsStep.1 ∈ jm_T := ⟨jm_tw (n := 1556) (by decide +kernel) rfl, jm_tp (n := 73) (q := (yX12_emitsStep, _)) (by rfl)⟩
theorem cwX12_readCall : jm_cw iX12_readCall 0 := ⟨jm_tw (n := 1553) (by decide +kernel) rfl, jm_tw (n := 13) (by decide +kernel) rfl, ⟨by decide +kernel, by decide +kernel, by decide +kernel⟩, by decide⟩
theorem vwX12_readCall : Cond.instanceMethod iX12_readCall.1 ∈ jm_T ∧ Cond.selects iX12_readCall.1.cls iX12_readCall.1 iX12_readCall.1 ∈ jm_T := ⟨jm_tw (n := 1552) (by decide +kernel) rfl, jm_tp (n := 72) (q := (yX12_readCall, _)) (by rfl)⟩
theorem cwX12_readCross : jm_cw iX12_readCross 0 := ⟨jm_tw (n := 1561) (by decide +kernel) rfl, jm_tw (n := 13) (by decide +kernel) rfl, ⟨by decide +kernel, by decide +kernel, by decide +kernel⟩, by decide⟩
theorem vwX12_readCross : Cond.instanceMethod iX12_readCross.1 ∈ jm_T ∧ Cond.selects iX12_readCross.1.cls iX12_readCross.1 iX12_readCross.1 ∈ jm_T := ⟨jm_tw (n := 1560) (by decide +kernel) rfl, jm_tp (n := 74) (q := (yX12_readCross, _)) (by rfl)⟩
theorem cwX12_readAgain : jm_cw iX12_readAgain 0 := ⟨jm_tw (n := 1565) (by decide +kernel) rfl, jm_tw (n := 13) (by decide +kernel) rfl, ⟨by decide +kernel, by decide +kernel, by decide +kernel⟩, by decide⟩
theorem vwX12_readAgain : Cond.instanceMethod iX12_readAgain.1 ∈ jm_T ∧ Cond.selects iX12_readAgain.1.cls iX12_readAgain.1 iX12_readAgain.1 ∈ jm_T := ⟨jm_tw (n := 1564) (by decide +kernel) rfl, jm_tp (n := 75) (q := (yX12_readAgain, _)) (by rfl)⟩
theorem cwX12_readOther : jm_cw iX12_readOther 0 := ⟨jm_tw (n := 1569) (by decide +kernel) rfl, jm_tw (n := 13) (by decide +kernel) rfl, ⟨by decide +kernel, by decide +kernel, by decide +kernel⟩, by decide⟩
theorem vwX12_readOther : Cond.instanceMethod iX12_readOther.1 ∈ jm_T ∧ Cond.selects iX12_readOther.1.cls iX12_readOther.1 iX12_readOther.1 ∈ jm_T := ⟨jm_tw (n := 1568) (by decide +kernel) rfl, jm_tp (n := 76) (q := (yX12_readOther, _)) (by rfl)⟩
theorem cwX12_readSteps : jm_cw iX12_readSteps 0 := ⟨jm_tw (n := 1549) (by decide +kernel) rfl, jm_tw (n := 13) (by decide +kernel) rfl, ⟨by decide +kernel, by decide +kernel, by decide +kernel⟩, by decide⟩
theorem vwX12_readSteps : Cond.instanceMethod iX12_readSteps.1 ∈ jm_T ∧ Cond.selects iX12_readSteps.1.cls iX12_readSteps.1 iX12_readSteps.1 ∈ jm_T := ⟨jm_tw (n := 1548) (by decide +kernel) rfl, jm_tp (n := 71) (q := (yX12_readSteps, _)) (by rfl)⟩
theorem cwX12_laysDeeds : jm_cw iX12_laysDeeds 0 := ⟨jm_tw (n := 1573) (by decide +kernel) rfl, jm_tw (n := 13) (by decide +kernel) rfl, ⟨by decide +kernel, by decide +kernel, by decide +kernel⟩, by decide⟩
theorem vwX12_laysDeeds : Cond.instanceMethod iX12_laysDeeds.1 ∈ jm_T ∧ Cond.selects iX12_laysDeeds.1.cls iX12_laysDeeds.1 iX12_laysDeeds.1 ∈ jm_T := ⟨jm_tw (n := 1572) (by decide +kernel) rfl, jm_tp (n := 77) (q := (yX12_laysDeeds, _)) (by rfl)⟩
theorem cwX12_readsText : jm_cw iX12_readsText 1 := ⟨jm_tw (n := 1485) (by decide +kernel) rfl, jm_tw (n := 13) (by decide +kernel) rfl, ⟨by decide +kernel, by decide +kernel, by decide +kernel⟩, by decide⟩
theorem vwX12_readsText : Cond.instanceMethod iX12_readsText.1 ∈ jm_T ∧ Cond.selects iX12_readsText.1.cls iX12_readsText.1 iX12_readsText.1 ∈ jm_T := ⟨jm_tw (n := 1484) (by decide +kernel) rfl, jm_tp (n := 55) (q := (yX12_readsText, _)) (by rfl)⟩
theorem cwX12_takesOther : jm_cw iX12_takesOther 2 := ⟨jm_tw (n := 1625) (by decide +kernel) rfl, jm_tw (n := 13) (by decide +kernel) rfl, ⟨by decide +kernel, by decide +kernel, by decide +kernel⟩, by decide⟩
theorem vwX12_takesOther : Cond.instanceMethod iX12_takesOther.1 ∈ jm_T ∧ Cond.selects iX12_takesOther.1.cls iX12_takesOther.1 iX12_takesOther.1 ∈ jm_T := ⟨jm_tw (n := 1624) (by decide +kernel) rfl, jm_tp (n := 90) (q := (yX12_takesOther, _)) (by rfl)⟩
theorem cwX12_text : jm_cw iX12_text 1 := ⟨jm_tw (n := 1481) (by decide +kernel) rfl, jm_tw (n := 13) (by decide +kernel) rfl, ⟨by decide +kernel, by decide +kernel, by decide +kernel⟩, by decide⟩
theorem vwX12_text : Cond.instanceMethod iX12_text.1 ∈ jm_T ∧ Cond.selects iX12_text.1.cls iX12_text.1 iX12_text.1 ∈ jm_T := ⟨jm_tw (n := 1479) (by decide +kernel) rfl, jm_tw (n := 1480) (by decide +kernel) rfl⟩
theorem cwX12_fault : jm_cw iX12_fault 1 := ⟨jm_tw (n := 1629) (by decide +kernel) rfl, jm_tw (n := 13) (by decide +kernel) rfl, ⟨by decide +kernel, by decide +kernel, by decide +kernel⟩, by decide⟩
theorem vwX12_fault : Cond.instanceMethod iX12_fault.1 ∈ jm_T ∧ Cond.selects iX12_fault.1.cls iX12_fault.1 iX12_fault.1 ∈ jm_T := ⟨jm_tw (n := 1627) (by decide +kernel) rfl, jm_tw (n := 1628) (by decide +kernel) rfl⟩
theorem cwX12_twoOf : jm_cw iX12_twoOf 3 := ⟨jm_tw (n := 1723) (by decide +kernel) rfl, jm_tw (n := 13) (by decide +kernel) rfl, ⟨by decide +kernel, by decide +kernel, by decide +kernel⟩, by decide⟩
theorem vwX12_twoOf : Cond.instanceMethod iX12_twoOf.1 ∈ jm_T ∧ Cond.selects iX12_twoOf.1.cls iX12_twoOf.1 iX12_twoOf.1 ∈ jm_T := ⟨jm_tw (n := 1722) (by decide +kernel) rfl, jm_tp (n := 112) (q := (yX12_twoOf, _)) (by rfl)⟩
theorem cwX12_runs : jm_cw iX12_runs 3 := ⟨jm_tw (n := 1719) (by decide +kernel) rfl, jm_tw (n := 13) (by decide +kernel) rfl, ⟨by decide +kernel, by decide +kernel, by decide +kernel⟩, by decide⟩
theorem vwX12_runs : Cond.instanceMethod iX12_runs.1 ∈ jm_T ∧ Cond.selects iX12_runs.1.cls iX12_runs.1 iX12_runs.1 ∈ jm_T := ⟨jm_tw (n := 1718) (by decide +kernel) rfl, jm_tp (n := 111) (q := (yX12_runs, _)) (by rfl)⟩
theorem cwX12_lineOf : jm_cw iX12_lineOf 1 := ⟨jm_tw (n := 1715) (by decide +kernel) rfl, jm_tw (n := 13) (by decide +kernel) rfl, ⟨by decide +kernel, by decide +kernel, by decide +kernel⟩, by decide⟩
theorem vwX12_lineOf : Cond.instanceMethod iX12_lineOf.1 ∈ jm_T ∧ Cond.selects iX12_lineOf.1.cls iX12_lineOf.1 iX12_lineOf.1 ∈ jm_T := ⟨jm_tw (n := 1714) (by decide +kernel) rfl, jm_tp (n := 110) (q := (yX12_lineOf, _)) (by rfl)⟩
theorem cwX12_ofTestimony : jm_cw iX12_ofTestimony 2 := ⟨jm_tw (n := 1707) (by decide +kernel) rfl, jm_tw (n := 13) (by decide +kernel) rfl, ⟨by decide +kernel, by decide +kernel, by decide +kernel⟩, by decide⟩
theorem vwX12_ofTestimony : Cond.instanceMethod iX12_ofTestimony.1 ∈ jm_T ∧ Cond.selects iX12_ofTestimony.1.cls iX12_ofTestimony.1 iX12_ofTestimony.1 ∈ jm_T := ⟨jm_tw (n := 1706) (by decide +kernel) rfl, jm_tp (n := 108) (q := (yX12_ofTestimony, _)) (by rfl)⟩
theorem cwX12_isTestimony : jm_cw iX12_isTestimony 1 := ⟨jm_tw (n := 1747) (by decide +kernel) rfl, jm_tw (n := 13) (by decide +kernel) rfl, ⟨by decide +kernel, by decide +kernel, by decide +kernel⟩, by decide⟩
theorem vwX12_isTestimony : Cond.instanceMethod iX12_isTestimony.1 ∈ jm_T ∧ Cond.selects iX12_isTestimony.1.cls iX12_isTestimony.1 iX12_isTestimony.1 ∈ jm_T := ⟨jm_tw (n := 1746) (by decide +kernel) rfl, jm_tp (n := 116) (q := (yX12_isTestimony, _)) (by rfl)⟩
theorem cwX12_isStruck : jm_cw iX12_isStruck 1 := ⟨jm_tw (n := 1751) (by decide +kernel) rfl, jm_tw (n := 13) (by decide +kernel) rfl, ⟨by decide +kernel, by decide +kernel, by decide +kernel⟩, by decide⟩
theorem vwX12_isStruck : Cond.instanceMethod iX12_isStruck.1 ∈ jm_T ∧ Cond.selects iX12_isStruck.1.cls iX12_isStruck.1 iX12_isStruck.1 ∈ jm_T := ⟨jm_tw (n := 1750) (by decide +kernel) rfl, jm_tp (n := 117) (q := (yX12_isStruck, _)) (by rfl)⟩
theorem cwX12_sungBy : jm_cw iX12_sungBy 1 := ⟨jm_tw (n := 1703) (by decide +kernel) rfl, jm_tw (n := 13) (by decide +kernel) rfl, ⟨by decide +kernel, by decide +kernel, by decide +kernel⟩, by decide⟩
theorem vwX12_sungBy : Cond.instanceMethod iX12_sungBy.1 ∈ jm_T ∧ Cond.selects iX12_sungBy.1.cls iX12_sungBy.1 iX12_sungBy.1 ∈ jm_T := ⟨jm_tw (n := 1702) (by decide +kernel) rfl, jm_tp (n := 107) (q := (yX12_sungBy, _)) (by rfl)⟩
theorem cwX12_notes : jm_cw iX12_notes 4 := ⟨jm_tw (n := 1731) (by decide +kernel) rfl, jm_tw (n := 13) (by decide +kernel) rfl, ⟨by decide +kernel, by decide +kernel, by decide +kernel⟩, by decide⟩
theorem vwX12_notes : Cond.instanceMethod iX12_notes.1 ∈ jm_T ∧ Cond.selects iX12_notes.1.cls iX12_notes.1 iX12_notes.1 ∈ jm_T := ⟨jm_tw (n := 1730) (by decide +kernel) rfl, jm_tp (n := 114) (q := (yX12_notes, _)) (by rfl)⟩
theorem cwX12_asks : jm_cw iX12_asks 4 := ⟨jm_tw (n := 1695) (by decide +kernel) rfl, jm_tw (n := 13) (by decide +kernel) rfl, ⟨by decide +kernel, by decide +kernel, by decide +kernel⟩, by decide⟩
theorem vwX12_asks : Cond.instanceMethod iX12_asks.1 ∈ jm_T ∧ Cond.selects iX12_asks.1.cls iX12_asks.1 iX12_asks.1 ∈ jm_T := ⟨jm_tw (n := 1694) (by decide +kernel) rfl, jm_tp (n := 105) (q := (yX12_asks, _)) (by rfl)⟩
theorem cwX12_lawTells : jm_cw iX12_lawTells 3 := ⟨jm_tw (n := 1711) (by decide +kernel) rfl, jm_tw (n := 13) (by decide +kernel) rfl, ⟨by decide +kernel, by decide +kernel, by decide +kernel⟩, by decide⟩
theorem vwX12_lawTells : Cond.instanceMethod iX12_lawTells.1 ∈ jm_T ∧ Cond.selects iX12_lawTells.1.cls iX12_lawTells.1 iX12_lawTells.1 ∈ jm_T := ⟨jm_tw (n := 1710) (by decide +kernel) rfl, jm_tp (n := 109) (q := (yX12_lawTells, _)) (by rfl)⟩
theorem cwX12_slipOf : jm_cw iX12_slipOf 5 := ⟨jm_tw (n := 1691) (by decide +kernel) rfl, jm_tw (n := 13) (by decide +kernel) rfl, ⟨by decide +kernel, by decide +kernel, by decide +kernel⟩, by decide⟩
theorem vwX12_slipOf : Cond.instanceMethod iX12_slipOf.1 ∈ jm_T ∧ Cond.selects iX12_slipOf.1.cls iX12_slipOf.1 iX12_slipOf.1 ∈ jm_T := ⟨jm_tw (n := 1690) (by decide +kernel) rfl, jm_tp (n := 104) (q := (yX12_slipOf, _)) (by rfl)⟩
theorem cwX12_shakeOf : jm_cw iX12_shakeOf 3 := ⟨jm_tw (n := 1727) (by decide +kernel) rfl, jm_tw (n := 13) (by decide +kernel) rfl, ⟨by decide +kernel, by decide +kernel, by decide +kernel⟩, by decide⟩
theorem vwX12_shakeOf : Cond.instanceMethod iX12_shakeOf.1 ∈ jm_T ∧ Cond.selects iX12_shakeOf.1.cls iX12_shakeOf.1 iX12_shakeOf.1 ∈ jm_T := ⟨jm_tw (n := 1726) (by decide +kernel) rfl, jm_tp (n := 113) (q := (yX12_shakeOf, _)) (by rfl)⟩
theorem cwX12_weighOf : jm_cw iX12_weighOf 4 := ⟨jm_tw (n := 1791) (by decide +kernel) rfl, jm_tw (n := 13) (by decide +kernel) rfl, ⟨by decide +kernel, by decide +kernel, by decide +kernel⟩, by decide⟩
theorem vwX12_weighOf : Cond.instanceMethod iX12_weighOf.1 ∈ jm_T ∧ Cond.selects iX12_weighOf.1.cls iX12_weighOf.1 iX12_weighOf.1 ∈ jm_T := ⟨jm_tw (n := 1790) (by decide +kernel) rfl, jm_tp (n := 123) (q := (yX12_weighOf, _)) (by rfl)⟩
theorem cwX12_notesOf : jm_cw iX12_notesOf 1 := ⟨jm_tw (n := 1653) (by decide +kernel) rfl, jm_tw (n := 13) (by decide +kernel) rfl, ⟨by decide +kernel, by decide +kernel, by decide +kernel⟩, by decide⟩
theorem vwX12_notesOf : Cond.instanceMethod iX12_notesOf.1 ∈ jm_T ∧ Cond.selects iX12_notesOf.1.cls iX12_notesOf.1 iX12_notesOf.1 ∈ jm_T := ⟨jm_tw (n := 1652) (by decide +kernel) rfl, jm_tp (n := 95) (q := (yX12_notesOf, _)) (by rfl)⟩
theorem cwX12_stepOf : jm_cw iX12_stepOf 2 := ⟨jm_tw (n := 1665) (by decide +kernel) rfl, jm_tw (n := 13) (by decide +kernel) rfl, ⟨by decide +kernel, by decide +kernel, by decide +kernel⟩, by decide⟩
theorem vwX12_stepOf : Cond.instanceMethod iX12_stepOf.1 ∈ jm_T ∧ Cond.selects iX12_stepOf.1.cls iX12_stepOf.1 iX12_stepOf.1 ∈ jm_T := ⟨jm_tw (n := 1664) (by decide +kernel) rfl, jm_tp (n := 98) (q := (yX12_stepOf, _)) (by rfl)⟩
theorem cwX12_aboveOf : jm_cw iX12_aboveOf 2 := ⟨jm_tw (n := 1661) (by decide +kernel) rfl, jm_tw (n := 13) (by decide +kernel) rfl, ⟨by decide +kernel, by decide +kernel, by decide +kernel⟩, by decide⟩
theorem vwX12_aboveOf : Cond.instanceMethod iX12_aboveOf.1 ∈ jm_T ∧ Cond.selects iX12_aboveOf.1.cls iX12_aboveOf.1 iX12_aboveOf.1 ∈ jm_T := ⟨jm_tw (n := 1660) (by decide +kernel) rfl, jm_tp (n := 97) (q := (yX12_aboveOf, _)) (by rfl)⟩
theorem cwX12_canSing : jm_cw iX12_canSing 4 := ⟨jm_tw (n := 1657) (by decide +kernel) rfl, jm_tw (n := 13) (by decide +kernel) rfl, ⟨by decide +kernel, by decide +kernel, by decide +kernel⟩, by decide⟩
theorem vwX12_canSing : Cond.instanceMethod iX12_canSing.1 ∈ jm_T ∧ Cond.selects iX12_canSing.1.cls iX12_canSing.1 iX12_canSing.1 ∈ jm_T := ⟨jm_tw (n := 1656) (by decide +kernel) rfl, jm_tp (n := 96) (q := (yX12_canSing, _)) (by rfl)⟩
theorem cwX12_motiveOf : jm_cw iX12_motiveOf 2 := ⟨jm_tw (n := 1645) (by decide +kernel) rfl, jm_tw (n := 13) (by decide +kernel) rfl, ⟨by decide +kernel, by decide +kernel, by decide +kernel⟩, by decide⟩
theorem vwX12_motiveOf : Cond.instanceMethod iX12_motiveOf.1 ∈ jm_T ∧ Cond.selects iX12_motiveOf.1.cls iX12_motiveOf.1 iX12_motiveOf.1 ∈ jm_T := ⟨jm_tw (n := 1644) (by decide +kernel) rfl, jm_tp (n := 93) (q := (yX12_motiveOf, _)) (by rfl)⟩
theorem cwX12_isSung : jm_cw iX12_isSung 3 := ⟨jm_tw (n := 1641) (by decide +kernel) rfl, jm_tw (n := 13) (by decide +kernel) rfl, ⟨by decide +kernel, by decide +kernel, by decide +kernel⟩, by decide⟩
theorem vwX12_isSung : Cond.instanceMethod iX12_isSung.1 ∈ jm_T ∧ Cond.selects iX12_isSung.1.cls iX12_isSung.1 iX12_isSung.1 ∈ jm_T := ⟨jm_tw (n := 1640) (by decide +kernel) rfl, jm_tp (n := 92) (q := (yX12_isSung, _)) (by rfl)⟩
theorem cwX12_barsFor : jm_cw iX12_barsFor 2 := ⟨jm_tw (n := 1669) (by decide +kernel) rfl, jm_tw (n := 13) (by decide +kernel) rfl, ⟨by decide +kernel, by decide +kernel, by decide +kernel⟩, by decide⟩
theorem vwX12_barsFor : Cond.instanceMethod iX12_barsFor.1 ∈ jm_T ∧ Cond.selects iX12_barsFor.1.cls iX12_barsFor.1 iX12_barsFor.1 ∈ jm_T := ⟨jm_tw (n := 1668) (by decide +kernel) rfl, jm_tp (n := 99) (q := (yX12_barsFor, _)) (by rfl)⟩
theorem cwX12_canCall : jm_cw iX12_canCall 3 := ⟨jm_tw (n := 1637) (by decide +kernel) rfl, jm_tw (n := 13) (by decide +kernel) rfl, ⟨by decide +kernel, by decide +kernel, by decide +kernel⟩, by decide⟩
theorem vwX12_canCall : Cond.instanceMethod iX12_canCall.1 ∈ jm_T ∧ Cond.selects iX12_canCall.1.cls iX12_canCall.1 iX12_canCall.1 ∈ jm_T := ⟨jm_tw (n := 1636) (by decide +kernel) rfl, jm_tp (n := 91) (q := (yX12_canCall, _)) (by rfl)⟩
theorem cwX12_bars : jm_cw iX12_bars 1 := ⟨jm_tw (n := 1681) (by decide +kernel) rfl, jm_tw (n := 13) (by decide +kernel) rfl, ⟨by decide +kernel, by decide +kernel, by decide +kernel⟩, by decide⟩
theorem vwX12_bars : Cond.instanceMethod iX12_bars.1 ∈ jm_T ∧ Cond.selects iX12_bars.1.cls iX12_bars.1 iX12_bars.1 ∈ jm_T := ⟨jm_tw (n := 1680) (by decide +kernel) rfl, jm_tp (n := 102) (q := (yX12_bars, _)) (by rfl)⟩
theorem cwX12_sings : jm_cw iX12_sings 3 := ⟨jm_tw (n := 1677) (by decide +kernel) rfl, jm_tw (n := 13) (by decide +kernel) rfl, ⟨by decide +kernel, by decide +kernel, by decide +kernel⟩, by decide⟩
theorem vwX12_sings : Cond.instanceMethod iX12_sings.1 ∈ jm_T ∧ Cond.selects iX12_sings.1.cls iX12_sings.1 iX12_sings.1 ∈ jm_T := ⟨jm_tw (n := 1676) (by decide +kernel) rfl, jm_tp (n := 101) (q := (yX12_sings, _)) (by rfl)⟩
theorem cwX12_crosses : jm_cw iX12_crosses 1 := ⟨jm_tw (n := 1739) (by decide +kernel) rfl, jm_tw (n := 13) (by decide +kernel) rfl, ⟨by decide +kernel, by decide +kernel, by decide +kernel⟩, by decide⟩
theorem vwX12_crosses : Cond.instanceMethod iX12_crosses.1 ∈ jm_T ∧ Cond.selects iX12_crosses.1.cls iX12_crosses.1 iX12_crosses.1 ∈ jm_T := ⟨jm_tw (n := 1738) (by decide +kernel) rfl, jm_tp (n := 115) (q := (yX12_crosses, _)) (by rfl)⟩
theorem cwX12_hoarseMany : jm_cw iX12_hoarseMany 0 := ⟨jm_tw (n := 1763) (by decide +kernel) rfl, jm_tw (n := 13) (by decide +kernel) rfl, ⟨by decide +kernel, by decide +kernel, by decide +kernel⟩, by decide⟩
theorem vwX12_hoarseMany : Cond.instanceMethod iX12_hoarseMany.1 ∈ jm_T ∧ Cond.selects iX12_hoarseMany.1.cls iX12_hoarseMany.1 iX12_hoarseMany.1 ∈ jm_T := ⟨jm_tw (n := 1762) (by decide +kernel) rfl, jm_tp (n := 119) (q := (yX12_hoarseMany, _)) (by rfl)⟩
theorem cwX12_restsDay : jm_cw iX12_restsDay 0 := ⟨jm_tw (n := 1759) (by decide +kernel) rfl, jm_tw (n := 13) (by decide +kernel) rfl, ⟨by decide +kernel, by decide +kernel, by decide +kernel⟩, by decide⟩
theorem vwX12_restsDay : Cond.instanceMethod iX12_restsDay.1 ∈ jm_T ∧ Cond.selects iX12_restsDay.1.cls iX12_restsDay.1 iX12_restsDay.1 ∈ jm_T := ⟨jm_tw (n := 1758) (by decide +kernel) rfl, jm_tp (n := 118) (q := (yX12_restsDay, _)) (by rfl)⟩
theorem cwX12_call : jm_cw iX12_call 3 := ⟨jm_tw (n := 1633) (by decide +kernel) rfl, jm_tw (n := 13) (by decide +kernel) rfl, ⟨by decide +kernel, by decide +kernel, by decide +kernel⟩, by decide⟩
theorem vwX12_call : Cond.instanceMethod iX12_call.1 ∈ jm_T ∧ Cond.selects iX12_call.1.cls iX12_call.1 iX12_call.1 ∈ jm_T := ⟨jm_tw (n := 1631) (by decide +kernel) rfl, jm_tw (n := 1632) (by decide +kernel) rfl⟩
theorem cwX12_cross : jm_cw iX12_cross 1 := ⟨jm_tw (n := 1735) (by decide +kernel) rfl, jm_tw (n := 13) (by decide +kernel) rfl, ⟨by decide +kernel, by decide +kernel, by decide +kernel⟩, by decide⟩
theorem vwX12_cross : Cond.instanceMethod iX12_cross.1 ∈ jm_T ∧ Cond.selects iX12_cross.1.cls iX12_cross.1 iX12_cross.1 ∈ jm_T := ⟨jm_tw (n := 1733) (by decide +kernel) rfl, jm_tw (n := 1734) (by decide +kernel) rfl⟩
theorem cwX12_strike : jm_cw iX12_strike 1 := ⟨jm_tw (n := 1743) (by decide +kernel) rfl, jm_tw (n := 13) (by decide +kernel) rfl, ⟨by decide +kernel, by decide +kernel, by decide +kernel⟩, by decide⟩
theorem vwX12_strike : Cond.instanceMethod iX12_strike.1 ∈ jm_T ∧ Cond.selects iX12_strike.1.cls iX12_strike.1 iX12_strike.1 ∈ jm_T := ⟨jm_tw (n := 1741) (by decide +kernel) rfl, jm_tw (n := 1742) (by decide +kernel) rfl⟩
theorem cwX12_days : jm_cw iX12_days 1 := ⟨jm_tw (n := 1755) (by decide +kernel) rfl, jm_tw (n := 13) (by decide +kernel) rfl, ⟨by decide +kernel, by decide +kernel, by decide +kernel⟩, by decide⟩
theorem vwX12_days : Cond.instanceMethod iX12_days.1 ∈ jm_T ∧ Cond.selects iX12_days.1.cls iX12_days.1 iX12_days.1 ∈ jm_T := ⟨jm_tw (n := 1753) (by decide +kernel) rfl, jm_tw (n := 1754) (by decide +kernel) rfl⟩
theorem cwX12_ofDeed : jm_cw iX12_ofDeed 2 := ⟨jm_tw (n := 1775) (by decide +kernel) rfl, jm_tw (n := 13) (by decide +kernel) rfl, ⟨by decide +kernel, by decide +kernel, by decide +kernel⟩, by decide⟩
theorem vwX12_ofDeed : Cond.instanceMethod iX12_ofDeed.1 ∈ jm_T ∧ Cond.selects iX12_ofDeed.1.cls iX12_ofDeed.1 iX12_ofDeed.1 ∈ jm_T := ⟨jm_tw (n := 1774) (by decide +kernel) rfl, jm_tp (n := 121) (q := (yX12_ofDeed, _)) (by rfl)⟩
theorem cwX12_restsOfTrial : jm_cw iX12_restsOfTrial 0 := ⟨jm_tw (n := 1771) (by decide +kernel) rfl, jm_tw (n := 13) (by decide +kernel) rfl, ⟨by decide +kernel, by decide +kernel, by decide +kernel⟩, by decide⟩
theorem vwX12_restsOfTrial : Cond.instanceMethod iX12_restsOfTrial.1 ∈ jm_T ∧ Cond.selects iX12_restsOfTrial.1.cls iX12_restsOfTrial.1 iX12_restsOfTrial.1 ∈ jm_T := ⟨jm_tw (n := 1770) (by decide +kernel) rfl, jm_tp (n := 120) (q := (yX12_restsOfTrial, _)) (by rfl)⟩
theorem cwX12_isDone : jm_cw iX12_isDone 1 := ⟨jm_tw (n := 1779) (by decide +kernel) rfl, jm_tw (n := 13) (by decide +kernel) rfl, ⟨by decide +kernel, by decide +kernel, by decide +kernel⟩, by decide⟩
theorem vwX12_isDone : Cond.instanceMethod iX12_isDone.1 ∈ jm_T ∧ Cond.selects iX12_isDone.1.cls iX12_isDone.1 iX12_isDone.1 ∈ jm_T := ⟨jm_tw (n := 1778) (by decide +kernel) rfl, jm_tp (n := 122) (q := (yX12_isDone, _)) (by rfl)⟩
theorem cwX12_trial : jm_cw iX12_trial 0 := ⟨jm_tw (n := 1767) (by decide +kernel) rfl, jm_tw (n := 13) (by decide +kernel) rfl, ⟨by decide +kernel, by decide +kernel, by decide +kernel⟩, by decide⟩
theorem vwX12_trial : Cond.instanceMethod iX12_trial.1 ∈ jm_T ∧ Cond.selects iX12_trial.1.cls iX12_trial.1 iX12_trial.1 ∈ jm_T := ⟨jm_tw (n := 1765) (by decide +kernel) rfl, jm_tw (n := 1766) (by decide +kernel) rfl⟩
theorem cwX12_of : jm_cw iX12_of 2 := ⟨jm_tw (n := 1783) (by decide +kernel) rfl, jm_tw (n := 13) (by decide +kernel) rfl, ⟨by decide +kernel, by decide +kernel, by decide +kernel⟩, by decide⟩
theorem vwX12_of : Cond.instanceMethod iX12_of.1 ∈ jm_T ∧ Cond.selects iX12_of.1.cls iX12_of.1 iX12_of.1 ∈ jm_T := ⟨jm_tw (n := 1781) (by decide +kernel) rfl, jm_tw (n := 1782) (by decide +kernel) rfl⟩
theorem cwX12_testimony : jm_cw iX12_testimony 2 := ⟨jm_tw (n := 1787) (by decide +kernel) rfl, jm_tw (n := 13) (by decide +kernel) rfl, ⟨by decide +kernel, by decide +kernel, by decide +kernel⟩, by decide⟩
theorem vwX12_testimony : Cond.instanceMethod iX12_testimony.1 ∈ jm_T ∧ Cond.selects iX12_testimony.1.cls iX12_testimony.1 iX12_testimony.1 ∈ jm_T := ⟨jm_tw (n := 1785) (by decide +kernel) rfl, jm_tw (n := 1786) (by decide +kernel) rfl⟩
theorem cwX12_bar : jm_cw iX12_bar 1 := ⟨jm_tw (n := 1795) (by decide +kernel) rfl, jm_tw (n := 13) (by decide +kernel) rfl, ⟨by decide +kernel, by decide +kernel, by decide +kernel⟩, by decide⟩
theorem vwX12_bar : Cond.instanceMethod iX12_bar.1 ∈ jm_T ∧ Cond.selects iX12_bar.1.cls iX12_bar.1 iX12_bar.1 ∈ jm_T := ⟨jm_tw (n := 1793) (by decide +kernel) rfl, jm_tw (n := 1794) (by decide +kernel) rfl⟩
theorem cwX12_motive : jm_cw iX12_motive 2 := ⟨jm_tw (n := 1799) (by decide +kernel) rfl, jm_tw (n := 13) (by decide +kernel) rfl, ⟨by decide +kernel, by decide +kernel, by decide +kernel⟩, by decide⟩
theorem vwX12_motive : Cond.instanceMethod iX12_motive.1 ∈ jm_T ∧ Cond.selects iX12_motive.1.cls iX12_motive.1 iX12_motive.1 ∈ jm_T := ⟨jm_tw (n := 1797) (by decide +kernel) rfl, jm_tw (n := 1798) (by decide +kernel) rfl⟩
theorem cwX12_book : jm_cw iX12_book 2 := ⟨jm_tw (n := 1803) (by decide +kernel) rfl, jm_tw (n := 13) (by decide +kernel) rfl, ⟨by decide +kernel, by decide +kernel, by decide +kernel⟩, by decide⟩
theorem vwX12_book : Cond.instanceMethod iX12_book.1 ∈ jm_T ∧ Cond.selects iX12_book.1.cls iX12_book.1 iX12_book.1 ∈ jm_T := ⟨jm_tw (n := 1801) (by decide +kernel) rfl, jm_tw (n := 1802) (by decide +kernel) rfl⟩
theorem cwX12_findsKeys : jm_cw iX12_findsKeys 2 := ⟨jm_tw (n := 1811) (by decide +kernel) rfl, jm_tw (n := 13) (by decide +kernel) rfl, ⟨by decide +kernel, by decide +kernel, by decide +kernel⟩, by decide⟩
theorem vwX12_findsKeys : Cond.instanceMethod iX12_findsKeys.1 ∈ jm_T ∧ Cond.selects iX12_findsKeys.1.cls iX12_findsKeys.1 iX12_findsKeys.1 ∈ jm_T := ⟨jm_tw (n := 1810) (by decide +kernel) rfl, jm_tp (n := 124) (q := (yX12_findsKeys, _)) (by rfl)⟩
theorem cwX12_keys : jm_cw iX12_keys 3 := ⟨jm_tw (n := 1807) (by decide +kernel) rfl, jm_tw (n := 13) (by decide +kernel) rfl, ⟨by decide +kernel, by decide +kernel, by decide +kernel⟩, by decide⟩
theorem vwX12_keys : Cond.instanceMethod iX12_keys.1 ∈ jm_T ∧ Cond.selects iX12_keys.1.cls iX12_keys.1 iX12_keys.1 ∈ jm_T := ⟨jm_tw (n := 1805) (by decide +kernel) rfl, jm_tw (n := 1806) (by decide +kernel) rfl⟩
theorem cwX12_fair : jm_cw iX12_fair 4 := ⟨jm_tw (n := 1815) (by decide +kernel) rfl, jm_tw (n := 13) (by decide +kernel) rfl, ⟨by decide +kernel, by decide +kernel, by decide +kernel⟩, by decide⟩
theorem vwX12_fair : Cond.instanceMethod iX12_fair.1 ∈ jm_T ∧ Cond.selects iX12_fair.1.cls iX12_fair.1 iX12_fair.1 ∈ jm_T := ⟨jm_tw (n := 1813) (by decide +kernel) rfl, jm_tw (n := 1814) (by decide +kernel) rfl⟩
theorem cwX12_heard : jm_cw iX12_heard 1 := ⟨jm_tw (n := 1821) (by decide +kernel) rfl, jm_tw (n := 13) (by decide +kernel) rfl, ⟨by decide +kernel, by decide +kernel, by decide +kernel⟩, by decide⟩
theorem vwX12_heard : Cond.instanceMethod iX12_heard.1 ∈ jm_T ∧ Cond.selects iX12_heard.1.cls iX12_heard.1 iX12_heard.1 ∈ jm_T := ⟨jm_tw (n := 1819) (by decide +kernel) rfl, jm_tw (n := 1820) (by decide +kernel) rfl⟩
theorem cwX12_unlikeTo : jm_cw iX12_unlikeTo 1 := ⟨jm_tw (n := 1829) (by decide +kernel) rfl, jm_tw (n := 13) (by decide +kernel) rfl, ⟨by decide +kernel, by decide +kernel, by decide +kernel⟩, by decide⟩
theorem vwX12_unlikeTo : Cond.instanceMethod iX12_unlikeTo.1 ∈ jm_T ∧ Cond.selects iX12_unlikeTo.1.cls iX12_unlikeTo.1 iX12_unlikeTo.1 ∈ jm_T := ⟨jm_tw (n := 1828) (by decide +kernel) rfl, jm_tp (n := 125) (q := (yX12_unlikeTo, _)) (by rfl)⟩
theorem cwX12_read : jm_cw iX12_read 2 := ⟨jm_tw (n := 1825) (by decide +kernel) rfl, jm_tw (n := 13) (by decide +kernel) rfl, ⟨by decide +kernel, by decide +kernel, by decide +kernel⟩, by decide⟩
theorem vwX12_read : Cond.instanceMethod iX12_read.1 ∈ jm_T ∧ Cond.selects iX12_read.1.cls iX12_read.1 iX12_read.1 ∈ jm_T := ⟨jm_tw (n := 1823) (by decide +kernel) rfl, jm_tw (n := 1824) (by decide +kernel) rfl⟩
theorem cwX12_doSound : jm_cw iX12_doSound 2 := ⟨jm_tw (n := 1841) (by decide +kernel) rfl, jm_tw (n := 13) (by decide +kernel) rfl, ⟨by decide +kernel, by decide +kernel, by decide +kernel⟩, by decide⟩
theorem vwX12_doSound : Cond.instanceMethod iX12_doSound.1 ∈ jm_T ∧ Cond.selects iX12_doSound.1.cls iX12_doSound.1 iX12_doSound.1 ∈ jm_T := ⟨jm_tw (n := 1840) (by decide +kernel) rfl, jm_tp (n := 127) (q := (yX12_doSound, _)) (by rfl)⟩
theorem cwX12_duet : jm_cw iX12_duet 2 := ⟨jm_tw (n := 1837) (by decide +kernel) rfl, jm_tw (n := 13) (by decide +kernel) rfl, ⟨by decide +kernel, by decide +kernel, by decide +kernel⟩, by decide⟩
theorem vwX12_duet : Cond.instanceMethod iX12_duet.1 ∈ jm_T ∧ Cond.selects iX12_duet.1.cls iX12_duet.1 iX12_duet.1 ∈ jm_T := ⟨jm_tw (n := 1835) (by decide +kernel) rfl, jm_tw (n := 1836) (by decide +kernel) rfl⟩
theorem cwX12_soundsWith : jm_cw iX12_soundsWith 3 := ⟨jm_tw (n := 1857) (by decide +kernel) rfl, jm_tw (n := 13) (by decide +kernel) rfl, ⟨by decide +kernel, by decide +kernel, by decide +kernel⟩, by decide⟩
theorem vwX12_soundsWith : Cond.instanceMethod iX12_soundsWith.1 ∈ jm_T ∧ Cond.selects iX12_soundsWith.1.cls iX12_soundsWith.1 iX12_soundsWith.1 ∈ jm_T := ⟨jm_tw (n := 1856) (by decide +kernel) rfl, jm_tp (n := 130) (q := (yX12_soundsWith, _)) (by rfl)⟩
theorem cwX12_best : jm_cw iX12_best 4 := ⟨jm_tw (n := 1853) (by decide +kernel) rfl, jm_tw (n := 13) (by decide +kernel) rfl, ⟨by decide +kernel, by decide +kernel, by decide +kernel⟩, by decide⟩
theorem vwX12_best : Cond.instanceMethod iX12_best.1 ∈ jm_T ∧ Cond.selects iX12_best.1.cls iX12_best.1 iX12_best.1 ∈ jm_T := ⟨jm_tw (n := 1851) (by decide +kernel) rfl, jm_tw (n := 1852) (by decide +kernel) rfl⟩
theorem cwX12_canon : jm_cw iX12_canon 2 := ⟨jm_tw (n := 1865) (by decide +kernel) rfl, jm_tw (n := 13) (by decide +kernel) rfl, ⟨by decide +kernel, by decide +kernel, by decide +kernel⟩, by decide⟩
theorem vwX12_canon : Cond.instanceMethod iX12_canon.1 ∈ jm_T ∧ Cond.selects iX12_canon.1.cls iX12_canon.1 iX12_canon.1 ∈ jm_T := ⟨jm_tw (n := 1863) (by decide +kernel) rfl, jm_tw (n := 1864) (by decide +kernel) rfl⟩
theorem cwX12_weighedFor : jm_cw iX12_weighedFor 2 := ⟨jm_tw (n := 1873) (by decide +kernel) rfl, jm_tw (n := 13) (by decide +kernel) rfl, ⟨by decide +kernel, by decide +kernel, by decide +kernel⟩, by decide⟩
theorem vwX12_weighedFor : Cond.instanceMethod iX12_weighedFor.1 ∈ jm_T ∧ Cond.selects iX12_weighedFor.1.cls iX12_weighedFor.1 iX12_weighedFor.1 ∈ jm_T := ⟨jm_tw (n := 1872) (by decide +kernel) rfl, jm_tp (n := 132) (q := (yX12_weighedFor, _)) (by rfl)⟩
theorem cwX12_isFoundWith : jm_cw iX12_isFoundWith 3 := ⟨jm_tw (n := 1885) (by decide +kernel) rfl, jm_tw (n := 13) (by decide +kernel) rfl, ⟨by decide +kernel, by decide +kernel, by decide +kernel⟩, by decide⟩
theorem vwX12_isFoundWith : Cond.instanceMethod iX12_isFoundWith.1 ∈ jm_T ∧ Cond.selects iX12_isFoundWith.1.cls iX12_isFoundWith.1 iX12_isFoundWith.1 ∈ jm_T := ⟨jm_tw (n := 1884) (by decide +kernel) rfl, jm_tp (n := 134) (q := (yX12_isFoundWith, _)) (by rfl)⟩
theorem cwX12_weighed : jm_cw iX12_weighed 2 := ⟨jm_tw (n := 1869) (by decide +kernel) rfl, jm_tw (n := 13) (by decide +kernel) rfl, ⟨by decide +kernel, by decide +kernel, by decide +kernel⟩, by decide⟩
theorem vwX12_weighed : Cond.instanceMethod iX12_weighed.1 ∈ jm_T ∧ Cond.selects iX12_weighed.1.cls iX12_weighed.1 iX12_weighed.1 ∈ jm_T := ⟨jm_tw (n := 1867) (by decide +kernel) rfl, jm_tw (n := 1868) (by decide +kernel) rfl⟩
theorem cwX12_found : jm_cw iX12_found 1 := ⟨jm_tw (n := 1881) (by decide +kernel) rfl, jm_tw (n := 13) (by decide +kernel) rfl, ⟨by decide +kernel, by decide +kernel, by decide +kernel⟩, by decide⟩
theorem vwX12_found : Cond.instanceMethod iX12_found.1 ∈ jm_T ∧ Cond.selects iX12_found.1.cls iX12_found.1 iX12_found.1 ∈ jm_T := ⟨jm_tw (n := 1879) (by decide +kernel) rfl, jm_tw (n := 1880) (by decide +kernel) rfl⟩
theorem cwX12_singersFor : jm_cw iX12_singersFor 2 := ⟨jm_tw (n := 1897) (by decide +kernel) rfl, jm_tw (n := 13) (by decide +kernel) rfl, ⟨by decide +kernel, by decide +kernel, by decide +kernel⟩, by decide⟩
theorem vwX12_singersFor : Cond.instanceMethod iX12_singersFor.1 ∈ jm_T ∧ Cond.selects iX12_singersFor.1.cls iX12_singersFor.1 iX12_singersFor.1 ∈ jm_T := ⟨jm_tw (n := 1896) (by decide +kernel) rfl, jm_tp (n := 136) (q := (yX12_singersFor, _)) (by rfl)⟩
theorem cwX12_calls : jm_cw iX12_calls 3 := ⟨jm_tw (n := 1893) (by decide +kernel) rfl, jm_tw (n := 13) (by decide +kernel) rfl, ⟨by decide +kernel, by decide +kernel, by decide +kernel⟩, by decide⟩
theorem vwX12_calls : Cond.instanceMethod iX12_calls.1 ∈ jm_T ∧ Cond.selects iX12_calls.1.cls iX12_calls.1 iX12_calls.1 ∈ jm_T := ⟨jm_tw (n := 1891) (by decide +kernel) rfl, jm_tw (n := 1892) (by decide +kernel) rfl⟩
theorem cwX12_doAgree : jm_cw iX12_doAgree 2 := ⟨jm_tw (n := 1913) (by decide +kernel) rfl, jm_tw (n := 13) (by decide +kernel) rfl, ⟨by decide +kernel, by decide +kernel, by decide +kernel⟩, by decide⟩
theorem vwX12_doAgree : Cond.instanceMethod iX12_doAgree.1 ∈ jm_T ∧ Cond.selects iX12_doAgree.1.cls iX12_doAgree.1 iX12_doAgree.1 ∈ jm_T := ⟨jm_tw (n := 1912) (by decide +kernel) rfl, jm_tp (n := 139) (q := (yX12_doAgree, _)) (by rfl)⟩
theorem cwX12_isChoir : jm_cw iX12_isChoir 1 := ⟨jm_tw (n := 1909) (by decide +kernel) rfl, jm_tw (n := 13) (by decide +kernel) rfl, ⟨by decide +kernel, by decide +kernel, by decide +kernel⟩, by decide⟩
theorem vwX12_isChoir : Cond.instanceMethod iX12_isChoir.1 ∈ jm_T ∧ Cond.selects iX12_isChoir.1.cls iX12_isChoir.1 iX12_isChoir.1 ∈ jm_T := ⟨jm_tw (n := 1908) (by decide +kernel) rfl, jm_tp (n := 138) (q := (yX12_isChoir, _)) (by rfl)⟩
theorem cwX12_choir : jm_cw iX12_choir 1 := ⟨jm_tw (n := 1905) (by decide +kernel) rfl, jm_tw (n := 13) (by decide +kernel) rfl, ⟨by decide +kernel, by decide +kernel, by decide +kernel⟩, by decide⟩
theorem vwX12_choir : Cond.instanceMethod iX12_choir.1 ∈ jm_T ∧ Cond.selects iX12_choir.1.cls iX12_choir.1 iX12_choir.1 ∈ jm_T := ⟨jm_tw (n := 1903) (by decide +kernel) rfl, jm_tw (n := 1904) (by decide +kernel) rfl⟩
theorem cwX12_valueIn : jm_cw iX12_valueIn 2 := ⟨jm_tw (n := 1929) (by decide +kernel) rfl, jm_tw (n := 13) (by decide +kernel) rfl, ⟨by decide +kernel, by decide +kernel, by decide +kernel⟩, by decide⟩
theorem vwX12_valueIn : Cond.instanceMethod iX12_valueIn.1 ∈ jm_T ∧ Cond.selects iX12_valueIn.1.cls iX12_valueIn.1 iX12_valueIn.1 ∈ jm_T := ⟨jm_tw (n := 1928) (by decide +kernel) rfl, jm_tp (n := 142) (q := (yX12_valueIn, _)) (by rfl)⟩
theorem cwX12_liarsIn : jm_cw iX12_liarsIn 1 := ⟨jm_tw (n := 1925) (by decide +kernel) rfl, jm_tw (n := 13) (by decide +kernel) rfl, ⟨by decide +kernel, by decide +kernel, by decide +kernel⟩, by decide⟩
theorem vwX12_liarsIn : Cond.instanceMethod iX12_liarsIn.1 ∈ jm_T ∧ Cond.selects iX12_liarsIn.1.cls iX12_liarsIn.1 iX12_liarsIn.1 ∈ jm_T := ⟨jm_tw (n := 1924) (by decide +kernel) rfl, jm_tp (n := 141) (q := (yX12_liarsIn, _)) (by rfl)⟩
theorem cwX12_findsWorlds : jm_cw iX12_findsWorlds 1 := ⟨jm_tw (n := 1921) (by decide +kernel) rfl, jm_tw (n := 13) (by decide +kernel) rfl, ⟨by decide +kernel, by decide +kernel, by decide +kernel⟩, by decide⟩
theorem vwX12_findsWorlds : Cond.instanceMethod iX12_findsWorlds.1 ∈ jm_T ∧ Cond.selects iX12_findsWorlds.1.cls iX12_findsWorlds.1 iX12_findsWorlds.1 ∈ jm_T := ⟨jm_tw (n := 1920) (by decide +kernel) rfl, jm_tp (n := 140) (q := (yX12_findsWorlds, _)) (by rfl)⟩
theorem cwX12_mostIn : jm_cw iX12_mostIn 1 := ⟨jm_tw (n := 1933) (by decide +kernel) rfl, jm_tw (n := 13) (by decide +kernel) rfl, ⟨by decide +kernel, by decide +kernel, by decide +kernel⟩, by decide⟩
theorem vwX12_mostIn : Cond.instanceMethod iX12_mostIn.1 ∈ jm_T ∧ Cond.selects iX12_mostIn.1.cls iX12_mostIn.1 iX12_mostIn.1 ∈ jm_T := ⟨jm_tw (n := 1932) (by decide +kernel) rfl, jm_tp (n := 143) (q := (yX12_mostIn, _)) (by rfl)⟩
theorem cwX12_worlds : jm_cw iX12_worlds 2 := ⟨jm_tw (n := 1917) (by decide +kernel) rfl, jm_tw (n := 13) (by decide +kernel) rfl, ⟨by decide +kernel, by decide +kernel, by decide +kernel⟩, by decide⟩
theorem vwX12_worlds : Cond.instanceMethod iX12_worlds.1 ∈ jm_T ∧ Cond.selects iX12_worlds.1.cls iX12_worlds.1 iX12_worlds.1 ∈ jm_T := ⟨jm_tw (n := 1915) (by decide +kernel) rfl, jm_tw (n := 1916) (by decide +kernel) rfl⟩
theorem cwX12_isUnlike : jm_cw iX12_isUnlike 4 := ⟨jm_tw (n := 1945) (by decide +kernel) rfl, jm_tw (n := 13) (by decide +kernel) rfl, ⟨by decide +kernel, by decide +kernel, by decide +kernel⟩, by decide⟩
theorem vwX12_isUnlike : Cond.instanceMethod iX12_isUnlike.1 ∈ jm_T ∧ Cond.selects iX12_isUnlike.1.cls iX12_isUnlike.1 iX12_isUnlike.1 ∈ jm_T := ⟨jm_tw (n := 1944) (by decide +kernel) rfl, jm_tp (n := 145) (q := (yX12_isUnlike, _)) (by rfl)⟩
theorem cwX12_areWitnesses : jm_cw iX12_areWitnesses 4 := ⟨jm_tw (n := 1941) (by decide +kernel) rfl, jm_tw (n := 13) (by decide +kernel) rfl, ⟨by decide +kernel, by decide +kernel, by decide +kernel⟩, by decide⟩
theorem vwX12_areWitnesses : Cond.instanceMethod iX12_areWitnesses.1 ∈ jm_T ∧ Cond.selects iX12_areWitnesses.1.cls iX12_areWitnesses.1 iX12_areWitnesses.1 ∈ jm_T := ⟨jm_tw (n := 1940) (by decide +kernel) rfl, jm_tp (n := 144) (q := (yX12_areWitnesses, _)) (by rfl)⟩
theorem cwX12_chord : jm_cw iX12_chord 6 := ⟨jm_tw (n := 1937) (by decide +kernel) rfl, jm_tw (n := 13) (by decide +kernel) rfl, ⟨by decide +kernel, by decide +kernel, by decide +kernel⟩, by decide⟩
theorem vwX12_chord : Cond.instanceMethod iX12_chord.1 ∈ jm_T ∧ Cond.selects iX12_chord.1.cls iX12_chord.1 iX12_chord.1 ∈ jm_T := ⟨jm_tw (n := 1935) (by decide +kernel) rfl, jm_tw (n := 1936) (by decide +kernel) rfl⟩
theorem cwX12_keeps : jm_cw iX12_keeps 1 := ⟨jm_tw (n := 1953) (by decide +kernel) rfl, jm_tw (n := 13) (by decide +kernel) rfl, ⟨by decide +kernel, by decide +kernel, by decide +kernel⟩, by decide⟩
theorem vwX12_keeps : Cond.instanceMethod iX12_keeps.1 ∈ jm_T ∧ Cond.selects iX12_keeps.1.cls iX12_keeps.1 iX12_keeps.1 ∈ jm_T := ⟨jm_tw (n := 1952) (by decide +kernel) rfl, jm_tp (n := 146) (q := (yX12_keeps, _)) (by rfl)⟩
theorem cwX12_keepsLaw : jm_cw iX12_keepsLaw 0 := ⟨jm_tw (n := 1961) (by decide +kernel) rfl, jm_tw (n := 13) (by decide +kernel) rfl, ⟨by decide +kernel, by decide +kernel, by decide +kernel⟩, by decide⟩
theorem vwX12_keepsLaw : Cond.instanceMethod iX12_keepsLaw.1 ∈ jm_T ∧ Cond.selects iX12_keepsLaw.1.cls iX12_keepsLaw.1 iX12_keepsLaw.1 ∈ jm_T := ⟨jm_tw (n := 1960) (by decide +kernel) rfl, jm_tp (n := 148) (q := (yX12_keepsLaw, _)) (by rfl)⟩
theorem cwX12_keepsTold : jm_cw iX12_keepsTold 0 := ⟨jm_tw (n := 1957) (by decide +kernel) rfl, jm_tw (n := 13) (by decide +kernel) rfl, ⟨by decide +kernel, by decide +kernel, by decide +kernel⟩, by decide⟩
theorem vwX12_keepsTold : Cond.instanceMethod iX12_keepsTold.1 ∈ jm_T ∧ Cond.selects iX12_keepsTold.1.cls iX12_keepsTold.1 iX12_keepsTold.1 ∈ jm_T := ⟨jm_tw (n := 1956) (by decide +kernel) rfl, jm_tp (n := 147) (q := (yX12_keepsTold, _)) (by rfl)⟩
theorem cwX12_image : jm_cw iX12_image 1 := ⟨jm_tw (n := 1949) (by decide +kernel) rfl, jm_tw (n := 13) (by decide +kernel) rfl, ⟨by decide +kernel, by decide +kernel, by decide +kernel⟩, by decide⟩
theorem vwX12_image : Cond.instanceMethod iX12_image.1 ∈ jm_T ∧ Cond.selects iX12_image.1.cls iX12_image.1 iX12_image.1 ∈ jm_T := ⟨jm_tw (n := 1947) (by decide +kernel) rfl, jm_tw (n := 1948) (by decide +kernel) rfl⟩
theorem cwX12_look : jm_cw iX12_look 1 := ⟨jm_tw (n := 1965) (by decide +kernel) rfl, jm_tw (n := 13) (by decide +kernel) rfl, ⟨by decide +kernel, by decide +kernel, by decide +kernel⟩, by decide⟩
theorem vwX12_look : Cond.instanceMethod iX12_look.1 ∈ jm_T ∧ Cond.selects iX12_look.1.cls iX12_look.1 iX12_look.1 ∈ jm_T := ⟨jm_tw (n := 1963) (by decide +kernel) rfl, jm_tw (n := 1964) (by decide +kernel) rfl⟩
theorem cwJ0_charAt_5068e : jm_cw iJ0_charAt_5068e 1 := ⟨jm_tw (n := 553) (by decide +kernel) rfl, jm_tw (n := 14) (by decide +kernel) rfl, ⟨by decide +kernel, by decide +kernel, by decide +kernel⟩, by decide⟩
theorem vwJ0_charAt_5068e : Cond.instanceMethod iJ0_charAt_5068e.1 ∈ jm_T ∧ Cond.selects iJ0_charAt_5068e.1.cls iJ0_charAt_5068e.1 iJ0_charAt_5068e.1 ∈ jm_T := ⟨jm_tw (n := 551) (by decide +kernel) rfl, jm_tw (n := 552) (by decide +kernel) rfl⟩
theorem cwJ0_length_8abf5 : jm_cw iJ0_length_8abf5 0 := ⟨jm_tw (n := 543) (by decide +kernel) rfl, jm_tw (n := 14) (by decide +kernel) rfl, ⟨by decide +kernel, by decide +kernel, by decide +kernel⟩, by decide⟩
theorem vwJ0_length_8abf5 : Cond.instanceMethod iJ0_length_8abf5.1 ∈ jm_T ∧ Cond.selects iJ0_length_8abf5.1.cls iJ0_length_8abf5.1 iJ0_length_8abf5.1 ∈ jm_T := ⟨jm_tw (n := 541) (by decide +kernel) rfl, jm_tw (n := 542) (by decide +kernel) rfl⟩
theorem cwJ13_bitCount_95d88 : jm_cw iJ13_bitCount_95d88 1 := ⟨jm_tw (n := 1208) (by decide +kernel) rfl, jm_tw (n := 21) (by decide +kernel) rfl, ⟨by decide +kernel, by decide +kernel, by decide +kernel⟩, by decide⟩
theorem vwJ13_bitCount_95d88 : Cond.static iJ13_bitCount_95d88.1 ∈ jm_T := jm_tw (n := 1207) (by decide +kernel) rfl
theorem cwJ6_bitCount_0f7a4 : jm_cw iJ6_bitCount_0f7a4 1 := ⟨jm_tw (n := 1129) (by decide +kernel) rfl, jm_tw (n := 20) (by decide +kernel) rfl, ⟨by decide +kernel, by decide +kernel, by decide +kernel⟩, by decide⟩
theorem vwJ6_bitCount_0f7a4 : Cond.static iJ6_bitCount_0f7a4.1 ∈ jm_T := jm_tw (n := 1128) (by decide +kernel) rfl
theorem mX0_23 : jm_mv RX0 23 iX8_claimOf 2 := ⟨cwX8_claimOf, jm_tw (n := 777) (by decide +kernel) rfl, vwX8_claimOf.1, vwX8_claimOf.2⟩
theorem mX0_41 : jm_mv RX0 41 iX5_fall 1 := ⟨cwX5_fall, jm_tw (n := 791) (by decide +kernel) rfl, vwX5_fall.1, vwX5_fall.2⟩
theorem mX0_48 : jm_mv RX0 48 iX5_rise 1 := ⟨cwX5_rise, jm_tw (n := 807) (by decide +kernel) rfl, vwX5_rise.1, vwX5_rise.2⟩
theorem mX0_51 : jm_mv RX0 51 iX0_highestKey 2 := ⟨cwX0_highestKey, jm_tw (n := 803) (by decide +kernel) rfl, vwX0_highestKey.1, vwX0_highestKey.2⟩
theorem mX0_54 : jm_mv RX0 54 iX0_lowestKey 2 := ⟨cwX0_lowestKey, jm_tw (n := 787) (by decide +kernel) rfl, vwX0_lowestKey.1, vwX0_lowestKey.2⟩
theorem mX0_57 : jm_mth RX0 57 Lib.Math.max.name Lib.Math.max.code 2 := ⟨jm_tw (n := 992) (by decide +kernel) rfl, jm_tw (n := 801) (by decide +kernel) rfl, jm_tw (n := 19) (by decide +kernel) rfl, jm_tw (n := 802) (by decide +kernel) rfl⟩
theorem mX0_62 {g : jm_G} (hg : jm_HC g) : jm_mn g RX0 62 iX11_isWithin "SungEvidence" 3 := ⟨cwX11_isWithin, vwX11_isWithin, fun s h => nwX0_62 hg s h⟩
theorem mX0_66 : jm_mv RX0 66 iX0_setTerms 2 := ⟨cwX0_setTerms, jm_tw (n := 854) (by decide +kernel) rfl, vwX0_setTerms.1, vwX0_setTerms.2⟩
theorem mX0_76 : jm_mv RX0 76 iX3_tell 3 := ⟨cwX3_tell, jm_tw (n := 866) (by decide +kernel) rfl, vwX3_tell.1, vwX3_tell.2⟩
theorem mX0_80 {g : jm_G} (hg : jm_HC g) : jm_mn g RX0 80 iX11_held "SungEvidence" 2 := ⟨cwX11_held, vwX11_held, fun s h => nwX0_80 hg s h⟩
theorem mX0_88 : jm_mv RX0 88 iX1_ofTestimony 2 := ⟨cwX1_ofTestimony, jm_tw (n := 965) (by decide +kernel) rfl, vwX1_ofTestimony.1, vwX1_ofTestimony.2⟩
theorem mX0_91 : jm_mv RX0 91 iX0_weightOf 3 := ⟨cwX0_weightOf, jm_tw (n := 966) (by decide +kernel) rfl, vwX0_weightOf.1, vwX0_weightOf.2⟩
theorem mX0_105 : jm_mv RX0 105 iX1_sungBy 1 := ⟨cwX1_sungBy, jm_tw (n := 858) (by decide +kernel) rfl, vwX1_sungBy.1, vwX1_sungBy.2⟩
theorem mX1_43 : jm_acp RX1 43 := ⟨jm_tw (n := 828) (by decide +kernel) rfl, jm_tw (n := 644) (by decide +kernel) rfl, jm_tw (n := 643) (by decide +kernel) rfl, jm_tw (n := 18) (by decide +kernel) rfl⟩
theorem mX1_51 : jm_mv RX1 51 iX1_isTestimony 1 := ⟨cwX1_isTestimony, jm_tw (n := 1047) (by decide +kernel) rfl, vwX1_isTestimony.1, vwX1_isTestimony.2⟩
theorem mX1_55 : jm_mv RX1 55 iX1_ofTestimony 2 := ⟨cwX1_ofTestimony, jm_tw (n := 862) (by decide +kernel) rfl, vwX1_ofTestimony.1, vwX1_ofTestimony.2⟩
theorem mX1_59 {g : jm_G} (hg : jm_HC g) : jm_mn g RX1 59 iX11_isWithin "SungEvidence" 3 := ⟨cwX11_isWithin, vwX11_isWithin, fun s h => nwX1_59 hg s h⟩
theorem mX1_63 : jm_mv RX1 63 iX1_write 4 := ⟨cwX1_write, jm_tw (n := 920) (by decide +kernel) rfl, vwX1_write.1, vwX1_write.2⟩
theorem mX10_47 : jm_mv RX10 47 iX0_slipOf 4 := ⟨cwX0_slipOf, jm_tw (n := 1005) (by decide +kernel) rfl, vwX0_slipOf.1, vwX0_slipOf.2⟩
theorem mX10_51 : jm_mv RX10 51 iX10_addChance 1 := ⟨cwX10_addChance, jm_tw (n := 1006) (by decide +kernel) rfl, vwX10_addChance.1, vwX10_addChance.2⟩
theorem mX10_55 : jm_mv RX10 55 iX5_stepOf 2 := ⟨cwX5_stepOf, jm_tw (n := 1010) (by decide +kernel) rfl, vwX5_stepOf.1, vwX5_stepOf.2⟩
theorem mX10_63 : jm_mv RX10 63 iX10_fewestUnlike 1 := ⟨cwX10_fewestUnlike, jm_tw (n := 1023) (by decide +kernel) rfl, vwX10_fewestUnlike.1, vwX10_fewestUnlike.2⟩
theorem mX10_67 : jm_mv RX10 67 iX5_rise 1 := ⟨cwX5_rise, jm_tw (n := 1027) (by decide +kernel) rfl, vwX5_rise.1, vwX5_rise.2⟩
theorem mX10_70 : jm_mv RX10 70 iX5_fall 1 := ⟨cwX5_fall, jm_tw (n := 1028) (by decide +kernel) rfl, vwX5_fall.1, vwX5_fall.2⟩
theorem mX10_73 : jm_mv RX10 73 iX10_unlikeFrom 2 := ⟨cwX10_unlikeFrom, jm_tw (n := 1029) (by decide +kernel) rfl, vwX10_unlikeFrom.1, vwX10_unlikeFrom.2⟩
theorem mX10_76 : jm_mth RX10 76 Lib.Math.min.name Lib.Math.min.code 2 := ⟨jm_tw (n := 1033) (by decide +kernel) rfl, jm_tw (n := 830) (by decide +kernel) rfl, jm_tw (n := 19) (by decide +kernel) rfl, jm_tw (n := 831) (by decide +kernel) rfl⟩
theorem mX10_86 : jm_mv RX10 86 iX1_ofTestimony 2 := ⟨cwX1_ofTestimony, jm_tw (n := 1042) (by decide +kernel) rfl, vwX1_ofTestimony.1, vwX1_ofTestimony.2⟩
theorem mX10_89 : jm_mv RX10 89 iX1_barOf 2 := ⟨cwX1_barOf, jm_tw (n := 1043) (by decide +kernel) rfl, vwX1_barOf.1, vwX1_barOf.2⟩
theorem mX10_92 : jm_mv RX10 92 iX8_barsSound 2 := ⟨cwX8_barsSound, jm_tw (n := 1049) (by decide +kernel) rfl, vwX8_barsSound.1, vwX8_barsSound.2⟩
theorem mX10_96 : jm_mv RX10 96 iX0_highestKey 2 := ⟨cwX0_highestKey, jm_tw (n := 1068) (by decide +kernel) rfl, vwX0_highestKey.1, vwX0_highestKey.2⟩
theorem mX10_99 : jm_mv RX10 99 iX0_lowestKey 2 := ⟨cwX0_lowestKey, jm_tw (n := 1069) (by decide +kernel) rfl, vwX0_lowestKey.1, vwX0_lowestKey.2⟩
theorem mX10_102 : jm_mv RX10 102 iX10_soundingFrom 3 := ⟨cwX10_soundingFrom, jm_tw (n := 1070) (by decide +kernel) rfl, vwX10_soundingFrom.1, vwX10_soundingFrom.2⟩
theorem mX10_106 : jm_mv RX10 106 iX10_tellSounds 0 := ⟨cwX10_tellSounds, jm_tw (n := 1194) (by decide +kernel) rfl, vwX10_tellSounds.1, vwX10_tellSounds.2⟩
theorem mX10_115 : jm_ms RX10 115 iX10_has 2 := ⟨cwX10_has, jm_tw (n := 1199) (by decide +kernel) rfl, vwX10_has⟩
theorem mX10_119 : jm_mv RX10 119 iX10_rangeOf 1 := ⟨cwX10_rangeOf, jm_tw (n := 1202) (by decide +kernel) rfl, vwX10_rangeOf.1, vwX10_rangeOf.2⟩
theorem mX10_123 : jm_ms RX10 123 iJ13_bitCount_95d88 1 := ⟨cwJ13_bitCount_95d88, jm_tw (n := 1206) (by decide +kernel) rfl, vwJ13_bitCount_95d88⟩
theorem mX10_129 : jm_ms RX10 129 iX10_lowestOf 1 := ⟨cwX10_lowestOf, jm_tw (n := 1212) (by decide +kernel) rfl, vwX10_lowestOf⟩
theorem mX10_132 : jm_ms RX10 132 iX10_chosen 4 := ⟨cwX10_chosen, jm_tw (n := 1215) (by decide +kernel) rfl, vwX10_chosen⟩
theorem mX10_135 : jm_mv RX10 135 iX8_sounds 2 := ⟨cwX8_sounds, jm_tw (n := 1198) (by decide +kernel) rfl, vwX8_sounds.1, vwX8_sounds.2⟩
theorem mX11_116 : jm_mv RX11 116 iX11_forgetDeeds 0 := ⟨cwX11_forgetDeeds, jm_tw (n := 452) (by decide +kernel) rfl, vwX11_forgetDeeds.1, vwX11_forgetDeeds.2⟩
theorem mX11_119 : jm_ms RX11 119 iX11_isNote 1 := ⟨cwX11_isNote, jm_tw (n := 460) (by decide +kernel) rfl, vwX11_isNote⟩
theorem mX11_123 : jm_ms RX11 123 iX11_isWithin 3 := ⟨cwX11_isWithin, jm_tw (n := 463) (by decide +kernel) rfl, vwX11_isWithin⟩
theorem mX11_130 : jm_mv RX11 130 iX8_addWitness 3 := ⟨cwX8_addWitness, jm_tw (n := 466) (by decide +kernel) rfl, vwX8_addWitness.1, vwX8_addWitness.2⟩
theorem mX11_141 : jm_mv RX11 141 iX8_isWitness 1 := ⟨cwX8_isWitness, jm_tw (n := 474) (by decide +kernel) rfl, vwX8_isWitness.1, vwX8_isWitness.2⟩
theorem mX11_144 : jm_ms RX11 144 iX11_isFact 1 := ⟨cwX11_isFact, jm_tw (n := 478) (by decide +kernel) rfl, vwX11_isFact⟩
theorem mX11_150 : jm_mv RX11 150 iX11_setOfWitness 3 := ⟨cwX11_setOfWitness, jm_tw (n := 485) (by decide +kernel) rfl, vwX11_setOfWitness.1, vwX11_setOfWitness.2⟩
theorem mX11_153 : jm_mv RX11 153 iX11_setOfBench 2 := ⟨cwX11_setOfBench, jm_tw (n := 489) (by decide +kernel) rfl, vwX11_setOfBench.1, vwX11_setOfBench.2⟩
theorem mX11_157 : jm_mv RX11 157 iX7_hasRoom 1 := ⟨cwX7_hasRoom, jm_tw (n := 497) (by decide +kernel) rfl, vwX7_hasRoom.1, vwX7_hasRoom.2⟩
theorem mX11_160 : jm_mv RX11 160 iX7_addNumber 1 := ⟨cwX7_addNumber, jm_tw (n := 501) (by decide +kernel) rfl, vwX7_addNumber.1, vwX7_addNumber.2⟩
theorem mX11_167 : jm_mv RX11 167 iX7_clearFault 0 := ⟨cwX7_clearFault, jm_tw (n := 513) (by decide +kernel) rfl, vwX7_clearFault.1, vwX7_clearFault.2⟩
theorem mX11_170 : jm_mv RX11 170 iX7_cutIntoTokens 1 := ⟨cwX7_cutIntoTokens, jm_tw (n := 517) (by decide +kernel) rfl, vwX7_cutIntoTokens.1, vwX7_cutIntoTokens.2⟩
theorem mX11_173 : jm_mv RX11 173 iX5_readFrom 1 := ⟨cwX5_readFrom, jm_tw (n := 592) (by decide +kernel) rfl, vwX5_readFrom.1, vwX5_readFrom.2⟩
theorem mX11_177 : jm_mv RX11 177 iX11_adoptMotives 0 := ⟨cwX11_adoptMotives, jm_tw (n := 634) (by decide +kernel) rfl, vwX11_adoptMotives.1, vwX11_adoptMotives.2⟩
theorem mX11_181 : jm_mv RX11 181 iX4_readLines 0 := ⟨cwX4_readLines, jm_tw (n := 645) (by decide +kernel) rfl, vwX4_readLines.1, vwX4_readLines.2⟩
theorem mX11_185 : jm_mv RX11 185 iX11_adoptLaw 0 := ⟨cwX11_adoptLaw, jm_tw (n := 699) (by decide +kernel) rfl, vwX11_adoptLaw.1, vwX11_adoptLaw.2⟩
theorem mX11_188 : jm_mv RX11 188 iX6_readFrom 2 := ⟨cwX6_readFrom, jm_tw (n := 708) (by decide +kernel) rfl, vwX6_readFrom.1, vwX6_readFrom.2⟩
theorem mX11_191 : jm_mv RX11 191 iX11_adoptPlan 0 := ⟨cwX11_adoptPlan, jm_tw (n := 751) (by decide +kernel) rfl, vwX11_adoptPlan.1, vwX11_adoptPlan.2⟩
theorem mX11_200 : jm_mv RX11 200 iX2_canBeCalled 3 := ⟨cwX2_canBeCalled, jm_tw (n := 769) (by decide +kernel) rfl, vwX2_canBeCalled.1, vwX2_canBeCalled.2⟩
theorem mX11_203 : jm_mv RX11 203 iX11_keepCourt 0 := ⟨cwX11_keepCourt, jm_tw (n := 820) (by decide +kernel) rfl, vwX11_keepCourt.1, vwX11_keepCourt.2⟩
theorem mX11_206 : jm_mv RX11 206 iX2_sing 3 := ⟨cwX2_sing, jm_tw (n := 832) (by decide +kernel) rfl, vwX2_sing.1, vwX2_sing.2⟩
theorem mX11_209 : jm_mv RX11 209 iX2_crossExamine 1 := ⟨cwX2_crossExamine, jm_tw (n := 903) (by decide +kernel) rfl, vwX2_crossExamine.1, vwX2_crossExamine.2⟩
theorem mX11_212 : jm_mv RX11 212 iX1_isTestimony 1 := ⟨cwX1_isTestimony, jm_tw (n := 911) (by decide +kernel) rfl, vwX1_isTestimony.1, vwX1_isTestimony.2⟩
theorem mX11_215 : jm_mv RX11 215 iX1_ofTestimony 2 := ⟨cwX1_ofTestimony, jm_tw (n := 915) (by decide +kernel) rfl, vwX1_ofTestimony.1, vwX1_ofTestimony.2⟩
theorem mX11_219 : jm_mv RX11 219 iX1_strikeOut 1 := ⟨cwX1_strikeOut, jm_tw (n := 916) (by decide +kernel) rfl, vwX1_strikeOut.1, vwX1_strikeOut.2⟩
theorem mX11_225 : jm_mv RX11 225 iX2_restOneDay 0 := ⟨cwX2_restOneDay, jm_tw (n := 925) (by decide +kernel) rfl, vwX2_restOneDay.1, vwX2_restOneDay.2⟩
theorem mX11_228 : jm_mv RX11 228 iX1_howManyHoarse 1 := ⟨cwX1_howManyHoarse, jm_tw (n := 930) (by decide +kernel) rfl, vwX1_howManyHoarse.1, vwX1_howManyHoarse.2⟩
theorem mX11_235 : jm_mv RX11 235 iX6_rests 0 := ⟨cwX6_rests, jm_tw (n := 938) (by decide +kernel) rfl, vwX6_rests.1, vwX6_rests.2⟩
theorem mX11_238 : jm_mv RX11 238 iX2_goThrough 1 := ⟨cwX2_goThrough, jm_tw (n := 942) (by decide +kernel) rfl, vwX2_goThrough.1, vwX2_goThrough.2⟩
theorem mX11_242 : jm_mv RX11 242 iX8_claimOf 2 := ⟨cwX8_claimOf, jm_tw (n := 954) (by decide +kernel) rfl, vwX8_claimOf.1, vwX8_claimOf.2⟩
theorem mX11_254 : jm_mv RX11 254 iX1_sungBy 1 := ⟨cwX1_sungBy, jm_tw (n := 955) (by decide +kernel) rfl, vwX1_sungBy.1, vwX1_sungBy.2⟩
theorem mX11_257 : jm_mv RX11 257 iX0_shakeOf 2 := ⟨cwX0_shakeOf, jm_tw (n := 956) (by decide +kernel) rfl, vwX0_shakeOf.1, vwX0_shakeOf.2⟩
theorem mX11_260 : jm_mv RX11 260 iX0_weightOfTestimony 1 := ⟨cwX0_weightOfTestimony, jm_tw (n := 961) (by decide +kernel) rfl, vwX0_weightOfTestimony.1, vwX0_weightOfTestimony.2⟩
theorem mX11_275 : jm_mv RX11 275 iX5_stepOf 2 := ⟨cwX5_stepOf, jm_tw (n := 978) (by decide +kernel) rfl, vwX5_stepOf.1, vwX5_stepOf.2⟩
theorem mX11_284 : jm_mv RX11 284 iX0_motiveOf 2 := ⟨cwX0_motiveOf, jm_tw (n := 987) (by decide +kernel) rfl, vwX0_motiveOf.1, vwX0_motiveOf.2⟩
theorem mX11_287 : jm_mv RX11 287 iX0_howManyKeys 2 := ⟨cwX0_howManyKeys, jm_tw (n := 988) (by decide +kernel) rfl, vwX0_howManyKeys.1, vwX0_howManyKeys.2⟩
theorem mX11_290 : jm_mv RX11 290 iX0_lowestKey 2 := ⟨cwX0_lowestKey, jm_tw (n := 993) (by decide +kernel) rfl, vwX0_lowestKey.1, vwX0_lowestKey.2⟩
theorem mX11_293 : jm_mv RX11 293 iX0_highestKey 2 := ⟨cwX0_highestKey, jm_tw (n := 994) (by decide +kernel) rfl, vwX0_highestKey.1, vwX0_highestKey.2⟩
theorem mX11_296 : jm_mv RX11 296 iX0_canSing 3 := ⟨cwX0_canSing, jm_tw (n := 999) (by decide +kernel) rfl, vwX0_canSing.1, vwX0_canSing.2⟩
theorem mX11_299 : jm_mv RX11 299 iX10_likelyWithin 4 := ⟨cwX10_likelyWithin, jm_tw (n := 1000) (by decide +kernel) rfl, vwX10_likelyWithin.1, vwX10_likelyWithin.2⟩
theorem mX11_309 : jm_mv RX11 309 iX10_motivesHeard 2 := ⟨cwX10_motivesHeard, jm_tw (n := 1019) (by decide +kernel) rfl, vwX10_motivesHeard.1, vwX10_motivesHeard.2⟩
theorem mX11_312 : jm_mv RX11 312 iX10_soundingBars 2 := ⟨cwX10_soundingBars, jm_tw (n := 1038) (by decide +kernel) rfl, vwX10_soundingBars.1, vwX10_soundingBars.2⟩
theorem mX11_315 : jm_mv RX11 315 iX10_bestKey 4 := ⟨cwX10_bestKey, jm_tw (n := 1064) (by decide +kernel) rfl, vwX10_bestKey.1, vwX10_bestKey.2⟩
theorem mX11_318 : jm_mv RX11 318 iX10_soundingBehind 2 := ⟨cwX10_soundingBehind, jm_tw (n := 1078) (by decide +kernel) rfl, vwX10_soundingBehind.1, vwX10_soundingBehind.2⟩
theorem mX11_321 : jm_ms RX11 321 iX11_isValue 1 := ⟨cwX11_isValue, jm_tw (n := 1086) (by decide +kernel) rfl, vwX11_isValue⟩
theorem mX11_324 : jm_mv RX11 324 iX9_weightFor 2 := ⟨cwX9_weightFor, jm_tw (n := 1089) (by decide +kernel) rfl, vwX9_weightFor.1, vwX9_weightFor.2⟩
theorem mX11_327 : jm_mv RX11 327 iX9_finding 1 := ⟨cwX9_finding, jm_tw (n := 1103) (by decide +kernel) rfl, vwX9_finding.1, vwX9_finding.2⟩
theorem mX11_330 : jm_mv RX11 330 iX9_fewestCallers 2 := ⟨cwX9_fewestCallers, jm_tw (n := 1116) (by decide +kernel) rfl, vwX9_fewestCallers.1, vwX9_fewestCallers.2⟩
theorem mX11_333 : jm_ms RX11 333 iJ6_bitCount_0f7a4 1 := ⟨cwJ6_bitCount_0f7a4, jm_tw (n := 1137) (by decide +kernel) rfl, vwJ6_bitCount_0f7a4⟩
theorem mX11_338 : jm_mv RX11 338 iX9_largestChoir 0 := ⟨cwX9_largestChoir, jm_tw (n := 1142) (by decide +kernel) rfl, vwX9_largestChoir.1, vwX9_largestChoir.2⟩
theorem mX11_341 : jm_mv RX11 341 iX9_worldsWith 2 := ⟨cwX9_worldsWith, jm_tw (n := 1162) (by decide +kernel) rfl, vwX9_worldsWith.1, vwX9_worldsWith.2⟩
theorem mX11_344 : jm_mv RX11 344 iX10_chordOf 5 := ⟨cwX10_chordOf, jm_tw (n := 1190) (by decide +kernel) rfl, vwX10_chordOf.1, vwX10_chordOf.2⟩
theorem mX11_348 : jm_mv RX11 348 iX1_copyFrom 1 := ⟨cwX1_copyFrom, jm_tw (n := 824) (by decide +kernel) rfl, vwX1_copyFrom.1, vwX1_copyFrom.2⟩
theorem mX11_352 : jm_mv RX11 352 iX8_copyFrom 1 := ⟨cwX8_copyFrom, jm_tw (n := 1226) (by decide +kernel) rfl, vwX8_copyFrom.1, vwX8_copyFrom.2⟩
theorem mX11_375 : jm_mv RX11 375 iX5_copyFrom 1 := ⟨cwX5_copyFrom, jm_tw (n := 638) (by decide +kernel) rfl, vwX5_copyFrom.1, vwX5_copyFrom.2⟩
theorem mX11_378 : jm_mv RX11 378 iX3_copyFrom 1 := ⟨cwX3_copyFrom, jm_tw (n := 703) (by decide +kernel) rfl, vwX3_copyFrom.1, vwX3_copyFrom.2⟩
theorem mX11_381 : jm_mv RX11 381 iX6_copyFrom 1 := ⟨cwX6_copyFrom, jm_tw (n := 755) (by decide +kernel) rfl, vwX6_copyFrom.1, vwX6_copyFrom.2⟩
theorem mX11_384 : jm_mth RX11 384 Lib.Math.min.name Lib.Math.min.code 2 := ⟨jm_tw (n := 829) (by decide +kernel) rfl, jm_tw (n := 830) (by decide +kernel) rfl, jm_tw (n := 19) (by decide +kernel) rfl, jm_tw (n := 831) (by decide +kernel) rfl⟩
theorem mX11_389 : jm_mth RX11 389 Lib.Math.max.name Lib.Math.max.code 2 := ⟨jm_tw (n := 880) (by decide +kernel) rfl, jm_tw (n := 801) (by decide +kernel) rfl, jm_tw (n := 19) (by decide +kernel) rfl, jm_tw (n := 802) (by decide +kernel) rfl⟩
theorem mX12_124 : jm_mv RX12 124 iX12_held 3 := ⟨cwX12_held, jm_tw (n := 1462) (by decide +kernel) rfl, vwX12_held.1, vwX12_held.2⟩
theorem mX12_128 : jm_mv RX12 128 iX12_isIn 3 := ⟨cwX12_isIn, jm_tw (n := 1434) (by decide +kernel) rfl, vwX12_isIn.1, vwX12_isIn.2⟩
theorem mX12_132 : jm_mv RX12 132 iX12_isWitness 1 := ⟨cwX12_isWitness, jm_tw (n := 1442) (by decide +kernel) rfl, vwX12_isWitness.1, vwX12_isWitness.2⟩
theorem mX12_136 : jm_mv RX12 136 iX12_isFact 1 := ⟨cwX12_isFact, jm_tw (n := 1446) (by decide +kernel) rfl, vwX12_isFact.1, vwX12_isFact.2⟩
theorem mX12_139 : jm_mv RX12 139 iX12_canSet 3 := ⟨cwX12_canSet, jm_tw (n := 1454) (by decide +kernel) rfl, vwX12_canSet.1, vwX12_canSet.2⟩
theorem mX12_142 : jm_mv RX12 142 iX12_nerveBe 2 := ⟨cwX12_nerveBe, jm_tw (n := 1458) (by decide +kernel) rfl, vwX12_nerveBe.1, vwX12_nerveBe.2⟩
theorem mX12_149 : jm_mv RX12 149 iX12_types 1 := ⟨cwX12_types, jm_tw (n := 1470) (by decide +kernel) rfl, vwX12_types.1, vwX12_types.2⟩
theorem mX12_156 : jm_mv RX12 156 iX12_raw 1 := ⟨cwX12_raw, jm_tw (n := 1490) (by decide +kernel) rfl, vwX12_raw.1, vwX12_raw.2⟩
theorem mX12_169 : jm_mv RX12 169 iX12_isLetter 1 := ⟨cwX12_isLetter, jm_tw (n := 1494) (by decide +kernel) rfl, vwX12_isLetter.1, vwX12_isLetter.2⟩
theorem mX12_172 : jm_mv RX12 172 iX12_wordAt 2 := ⟨cwX12_wordAt, jm_tw (n := 1498) (by decide +kernel) rfl, vwX12_wordAt.1, vwX12_wordAt.2⟩
theorem mX12_176 : jm_mv RX12 176 iX12_isDigit 1 := ⟨cwX12_isDigit, jm_tw (n := 1502) (by decide +kernel) rfl, vwX12_isDigit.1, vwX12_isDigit.2⟩
theorem mX12_179 : jm_mv RX12 179 iX12_isMarkSign 1 := ⟨cwX12_isMarkSign, jm_tw (n := 1506) (by decide +kernel) rfl, vwX12_isMarkSign.1, vwX12_isMarkSign.2⟩
theorem mX12_191 : jm_mv RX12 191 iX12_canAsk 1 := ⟨cwX12_canAsk, jm_tw (n := 1594) (by decide +kernel) rfl, vwX12_canAsk.1, vwX12_canAsk.2⟩
theorem mX12_194 : jm_mv RX12 194 iX12_errs 1 := ⟨cwX12_errs, jm_tw (n := 1518) (by decide +kernel) rfl, vwX12_errs.1, vwX12_errs.2⟩
theorem mX12_197 : jm_mv RX12 197 iX12_emits 2 := ⟨cwX12_emits, jm_tw (n := 1598) (by decide +kernel) rfl, vwX12_emits.1, vwX12_emits.2⟩
theorem mX12_200 : jm_mv RX12 200 iX12_reads 0 := ⟨cwX12_reads, jm_tw (n := 1486) (by decide +kernel) rfl, vwX12_reads.1, vwX12_reads.2⟩
theorem mX12_203 : jm_mv RX12 203 iX12_readUnit 0 := ⟨cwX12_readUnit, jm_tw (n := 1590) (by decide +kernel) rfl, vwX12_readUnit.1, vwX12_readUnit.2⟩
theorem mX12_207 : jm_mv RX12 207 iX12_isSign 1 := ⟨cwX12_isSign, jm_tw (n := 1542) (by decide +kernel) rfl, vwX12_isSign.1, vwX12_isSign.2⟩
theorem mX12_210 : jm_mv RX12 210 iX12_readProduct 0 := ⟨cwX12_readProduct, jm_tw (n := 1586) (by decide +kernel) rfl, vwX12_readProduct.1, vwX12_readProduct.2⟩
theorem mX12_213 : jm_mv RX12 213 iX12_readSum 0 := ⟨cwX12_readSum, jm_tw (n := 1582) (by decide +kernel) rfl, vwX12_readSum.1, vwX12_readSum.2⟩
theorem mX12_222 : jm_mv RX12 222 iX12_isWord 1 := ⟨cwX12_isWord, jm_tw (n := 1514) (by decide +kernel) rfl, vwX12_isWord.1, vwX12_isWord.2⟩
theorem mX12_225 : jm_mv RX12 225 iX12_waits 1 := ⟨cwX12_waits, jm_tw (n := 1606) (by decide +kernel) rfl, vwX12_waits.1, vwX12_waits.2⟩
theorem mX12_228 : jm_mv RX12 228 iX12_readCompared 0 := ⟨cwX12_readCompared, jm_tw (n := 1610) (by decide +kernel) rfl, vwX12_readCompared.1, vwX12_readCompared.2⟩
theorem mX12_231 : jm_mv RX12 231 iX12_settles 1 := ⟨cwX12_settles, jm_tw (n := 1614) (by decide +kernel) rfl, vwX12_settles.1, vwX12_settles.2⟩
theorem mX12_234 : jm_mv RX12 234 iX12_isLineWord 0 := ⟨cwX12_isLineWord, jm_tw (n := 1578) (by decide +kernel) rfl, vwX12_isLineWord.1, vwX12_isLineWord.2⟩
theorem mX12_238 : jm_mv RX12 238 iX12_readAny 0 := ⟨cwX12_readAny, jm_tw (n := 1602) (by decide +kernel) rfl, vwX12_readAny.1, vwX12_readAny.2⟩
theorem mX12_244 : jm_mv RX12 244 iX12_readNumber 2 := ⟨cwX12_readNumber, jm_tw (n := 1530) (by decide +kernel) rfl, vwX12_readNumber.1, vwX12_readNumber.2⟩
theorem mX12_247 : jm_mv RX12 247 iX12_readTold 3 := ⟨cwX12_readTold, jm_tw (n := 1526) (by decide +kernel) rfl, vwX12_readTold.1, vwX12_readTold.2⟩
theorem mX12_250 : jm_mv RX12 250 iX12_readStep 1 := ⟨cwX12_readStep, jm_tw (n := 1534) (by decide +kernel) rfl, vwX12_readStep.1, vwX12_readStep.2⟩
theorem mX12_253 : jm_mv RX12 253 iX12_readMark 1 := ⟨cwX12_readMark, jm_tw (n := 1538) (by decide +kernel) rfl, vwX12_readMark.1, vwX12_readMark.2⟩
theorem mX12_256 : jm_mv RX12 256 iX12_readMotive 0 := ⟨cwX12_readMotive, jm_tw (n := 1522) (by decide +kernel) rfl, vwX12_readMotive.1, vwX12_readMotive.2⟩
theorem mX12_262 : jm_mv RX12 262 iX12_emitsStep 4 := ⟨cwX12_emitsStep, jm_tw (n := 1554) (by decide +kernel) rfl, vwX12_emitsStep.1, vwX12_emitsStep.2⟩
theorem mX12_266 : jm_mv RX12 266 iX12_readCall 0 := ⟨cwX12_readCall, jm_tw (n := 1550) (by decide +kernel) rfl, vwX12_readCall.1, vwX12_readCall.2⟩
theorem mX12_269 : jm_mv RX12 269 iX12_readCross 0 := ⟨cwX12_readCross, jm_tw (n := 1558) (by decide +kernel) rfl, vwX12_readCross.1, vwX12_readCross.2⟩
theorem mX12_272 : jm_mv RX12 272 iX12_readAgain 0 := ⟨cwX12_readAgain, jm_tw (n := 1562) (by decide +kernel) rfl, vwX12_readAgain.1, vwX12_readAgain.2⟩
theorem mX12_275 : jm_mv RX12 275 iX12_readOther 0 := ⟨cwX12_readOther, jm_tw (n := 1566) (by decide +kernel) rfl, vwX12_readOther.1, vwX12_readOther.2⟩
theorem mX12_278 : jm_mv RX12 278 iX12_readMotives 0 := ⟨cwX12_readMotives, jm_tw (n := 1510) (by decide +kernel) rfl, vwX12_readMotives.1, vwX12_readMotives.2⟩
theorem mX12_281 : jm_mv RX12 281 iX12_readSteps 0 := ⟨cwX12_readSteps, jm_tw (n := 1546) (by decide +kernel) rfl, vwX12_readSteps.1, vwX12_readSteps.2⟩
theorem mX12_284 : jm_mv RX12 284 iX12_laysDeeds 0 := ⟨cwX12_laysDeeds, jm_tw (n := 1570) (by decide +kernel) rfl, vwX12_laysDeeds.1, vwX12_laysDeeds.2⟩
theorem mX12_287 : jm_mv RX12 287 iX12_readLaw 0 := ⟨cwX12_readLaw, jm_tw (n := 1574) (by decide +kernel) rfl, vwX12_readLaw.1, vwX12_readLaw.2⟩
theorem mX12_299 : jm_mv RX12 299 iX12_readsText 1 := ⟨cwX12_readsText, jm_tw (n := 1482) (by decide +kernel) rfl, vwX12_readsText.1, vwX12_readsText.2⟩
theorem mX12_302 : jm_mv RX12 302 iX12_takesLaw 1 := ⟨cwX12_takesLaw, jm_tw (n := 1618) (by decide +kernel) rfl, vwX12_takesLaw.1, vwX12_takesLaw.2⟩
theorem mX12_305 : jm_mv RX12 305 iX12_takesOther 2 := ⟨cwX12_takesOther, jm_tw (n := 1622) (by decide +kernel) rfl, vwX12_takesOther.1, vwX12_takesOther.2⟩
theorem mX12_308 : jm_mv RX12 308 iX12_twoOf 3 := ⟨cwX12_twoOf, jm_tw (n := 1720) (by decide +kernel) rfl, vwX12_twoOf.1, vwX12_twoOf.2⟩
theorem mX12_311 : jm_mv RX12 311 iX12_runs 3 := ⟨cwX12_runs, jm_tw (n := 1716) (by decide +kernel) rfl, vwX12_runs.1, vwX12_runs.2⟩
theorem mX12_314 : jm_mv RX12 314 iX12_ofTestimony 2 := ⟨cwX12_ofTestimony, jm_tw (n := 1704) (by decide +kernel) rfl, vwX12_ofTestimony.1, vwX12_ofTestimony.2⟩
theorem mX12_317 : jm_mv RX12 317 iX12_nerveOf 1 := ⟨cwX12_nerveOf, jm_tw (n := 1696) (by decide +kernel) rfl, vwX12_nerveOf.1, vwX12_nerveOf.2⟩
theorem mX12_320 : jm_mv RX12 320 iX12_sungBy 1 := ⟨cwX12_sungBy, jm_tw (n := 1700) (by decide +kernel) rfl, vwX12_sungBy.1, vwX12_sungBy.2⟩
theorem mX12_323 : jm_mv RX12 323 iX12_lineOf 1 := ⟨cwX12_lineOf, jm_tw (n := 1712) (by decide +kernel) rfl, vwX12_lineOf.1, vwX12_lineOf.2⟩
theorem mX12_326 : jm_mv RX12 326 iX12_asks 4 := ⟨cwX12_asks, jm_tw (n := 1692) (by decide +kernel) rfl, vwX12_asks.1, vwX12_asks.2⟩
theorem mX12_329 : jm_mv RX12 329 iX12_lawTells 3 := ⟨cwX12_lawTells, jm_tw (n := 1708) (by decide +kernel) rfl, vwX12_lawTells.1, vwX12_lawTells.2⟩
theorem mX12_332 : jm_mv RX12 332 iX12_stepOf 2 := ⟨cwX12_stepOf, jm_tw (n := 1662) (by decide +kernel) rfl, vwX12_stepOf.1, vwX12_stepOf.2⟩
theorem mX12_335 : jm_mv RX12 335 iX12_notesOf 1 := ⟨cwX12_notesOf, jm_tw (n := 1650) (by decide +kernel) rfl, vwX12_notesOf.1, vwX12_notesOf.2⟩
theorem mX12_338 : jm_mv RX12 338 iX12_aboveOf 2 := ⟨cwX12_aboveOf, jm_tw (n := 1658) (by decide +kernel) rfl, vwX12_aboveOf.1, vwX12_aboveOf.2⟩
theorem mX12_341 : jm_mv RX12 341 iX12_claimOf 2 := ⟨cwX12_claimOf, jm_tw (n := 1646) (by decide +kernel) rfl, vwX12_claimOf.1, vwX12_claimOf.2⟩
theorem mX12_344 : jm_mv RX12 344 iX12_motiveOf 2 := ⟨cwX12_motiveOf, jm_tw (n := 1642) (by decide +kernel) rfl, vwX12_motiveOf.1, vwX12_motiveOf.2⟩
theorem mX12_347 : jm_mv RX12 347 iX12_canSing 4 := ⟨cwX12_canSing, jm_tw (n := 1654) (by decide +kernel) rfl, vwX12_canSing.1, vwX12_canSing.2⟩
theorem mX12_351 : jm_mv RX12 351 iX12_isSung 3 := ⟨cwX12_isSung, jm_tw (n := 1638) (by decide +kernel) rfl, vwX12_isSung.1, vwX12_isSung.2⟩
theorem mX12_354 : jm_mv RX12 354 iX12_barsFor 2 := ⟨cwX12_barsFor, jm_tw (n := 1666) (by decide +kernel) rfl, vwX12_barsFor.1, vwX12_barsFor.2⟩
theorem mX12_357 : jm_mv RX12 357 iX12_bars 1 := ⟨cwX12_bars, jm_tw (n := 1678) (by decide +kernel) rfl, vwX12_bars.1, vwX12_bars.2⟩
theorem mX12_360 : jm_mv RX12 360 iX12_draw 1 := ⟨cwX12_draw, jm_tw (n := 1682) (by decide +kernel) rfl, vwX12_draw.1, vwX12_draw.2⟩
theorem mX12_363 : jm_mv RX12 363 iX12_slipOf 5 := ⟨cwX12_slipOf, jm_tw (n := 1688) (by decide +kernel) rfl, vwX12_slipOf.1, vwX12_slipOf.2⟩
theorem mX12_367 : jm_mv RX12 367 iX12_shakeOf 3 := ⟨cwX12_shakeOf, jm_tw (n := 1724) (by decide +kernel) rfl, vwX12_shakeOf.1, vwX12_shakeOf.2⟩
theorem mX12_370 : jm_mv RX12 370 iX12_notes 4 := ⟨cwX12_notes, jm_tw (n := 1728) (by decide +kernel) rfl, vwX12_notes.1, vwX12_notes.2⟩
theorem mX12_373 : jm_mv RX12 373 iX12_canCall 3 := ⟨cwX12_canCall, jm_tw (n := 1634) (by decide +kernel) rfl, vwX12_canCall.1, vwX12_canCall.2⟩
theorem mX12_376 : jm_mv RX12 376 iX12_keepsAhead 0 := ⟨cwX12_keepsAhead, jm_tw (n := 1670) (by decide +kernel) rfl, vwX12_keepsAhead.1, vwX12_keepsAhead.2⟩
theorem mX12_379 : jm_mv RX12 379 iX12_sings 3 := ⟨cwX12_sings, jm_tw (n := 1674) (by decide +kernel) rfl, vwX12_sings.1, vwX12_sings.2⟩
theorem mX12_382 : jm_mv RX12 382 iX12_crosses 1 := ⟨cwX12_crosses, jm_tw (n := 1736) (by decide +kernel) rfl, vwX12_crosses.1, vwX12_crosses.2⟩
theorem mX12_385 : jm_mv RX12 385 iX12_isTestimony 1 := ⟨cwX12_isTestimony, jm_tw (n := 1744) (by decide +kernel) rfl, vwX12_isTestimony.1, vwX12_isTestimony.2⟩
theorem mX12_388 : jm_mv RX12 388 iX12_isStruck 1 := ⟨cwX12_isStruck, jm_tw (n := 1748) (by decide +kernel) rfl, vwX12_isStruck.1, vwX12_isStruck.2⟩
theorem mX12_391 : jm_mv RX12 391 iX12_restsDay 0 := ⟨cwX12_restsDay, jm_tw (n := 1756) (by decide +kernel) rfl, vwX12_restsDay.1, vwX12_restsDay.2⟩
theorem mX12_394 : jm_mv RX12 394 iX12_hoarseMany 0 := ⟨cwX12_hoarseMany, jm_tw (n := 1760) (by decide +kernel) rfl, vwX12_hoarseMany.1, vwX12_hoarseMany.2⟩
theorem mX12_397 : jm_mv RX12 397 iX12_ofDeed 2 := ⟨cwX12_ofDeed, jm_tw (n := 1772) (by decide +kernel) rfl, vwX12_ofDeed.1, vwX12_ofDeed.2⟩
theorem mX12_400 : jm_mv RX12 400 iX12_restsOfTrial 0 := ⟨cwX12_restsOfTrial, jm_tw (n := 1768) (by decide +kernel) rfl, vwX12_restsOfTrial.1, vwX12_restsOfTrial.2⟩
theorem mX12_403 : jm_mv RX12 403 iX12_isDone 1 := ⟨cwX12_isDone, jm_tw (n := 1776) (by decide +kernel) rfl, vwX12_isDone.1, vwX12_isDone.2⟩
theorem mX12_406 : jm_mv RX12 406 iX12_weighOf 4 := ⟨cwX12_weighOf, jm_tw (n := 1788) (by decide +kernel) rfl, vwX12_weighOf.1, vwX12_weighOf.2⟩
theorem mX12_419 : jm_mv RX12 419 iX12_findsKeys 2 := ⟨cwX12_findsKeys, jm_tw (n := 1808) (by decide +kernel) rfl, vwX12_findsKeys.1, vwX12_findsKeys.2⟩
theorem mX12_428 : jm_mv RX12 428 iX12_lesser 2 := ⟨cwX12_lesser, jm_tw (n := 1830) (by decide +kernel) rfl, vwX12_lesser.1, vwX12_lesser.2⟩
theorem mX12_431 : jm_mv RX12 431 iX12_unlikeTo 1 := ⟨cwX12_unlikeTo, jm_tw (n := 1826) (by decide +kernel) rfl, vwX12_unlikeTo.1, vwX12_unlikeTo.2⟩
theorem mX12_434 : jm_mv RX12 434 iX12_soundNow 0 := ⟨cwX12_soundNow, jm_tw (n := 1842) (by decide +kernel) rfl, vwX12_soundNow.1, vwX12_soundNow.2⟩
theorem mX12_437 : jm_mv RX12 437 iX12_far 2 := ⟨cwX12_far, jm_tw (n := 1846) (by decide +kernel) rfl, vwX12_far.1, vwX12_far.2⟩
theorem mX12_440 : jm_mv RX12 440 iX12_doSound 2 := ⟨cwX12_doSound, jm_tw (n := 1838) (by decide +kernel) rfl, vwX12_doSound.1, vwX12_doSound.2⟩
theorem mX12_444 : jm_mv RX12 444 iX12_soundsWith 3 := ⟨cwX12_soundsWith, jm_tw (n := 1854) (by decide +kernel) rfl, vwX12_soundsWith.1, vwX12_soundsWith.2⟩
theorem mX12_447 : jm_mv RX12 447 iX12_greater 2 := ⟨cwX12_greater, jm_tw (n := 1858) (by decide +kernel) rfl, vwX12_greater.1, vwX12_greater.2⟩
theorem mX12_450 : jm_mv RX12 450 iX12_flatsNow 0 := ⟨cwX12_flatsNow, jm_tw (n := 1874) (by decide +kernel) rfl, vwX12_flatsNow.1, vwX12_flatsNow.2⟩
theorem mX12_453 : jm_mv RX12 453 iX12_weighedFor 2 := ⟨cwX12_weighedFor, jm_tw (n := 1870) (by decide +kernel) rfl, vwX12_weighedFor.1, vwX12_weighedFor.2⟩
theorem mX12_456 : jm_mv RX12 456 iX12_needNow 0 := ⟨cwX12_needNow, jm_tw (n := 1886) (by decide +kernel) rfl, vwX12_needNow.1, vwX12_needNow.2⟩
theorem mX12_459 : jm_mv RX12 459 iX12_isFoundWith 3 := ⟨cwX12_isFoundWith, jm_tw (n := 1882) (by decide +kernel) rfl, vwX12_isFoundWith.1, vwX12_isFoundWith.2⟩
theorem mX12_462 : jm_mv RX12 462 iX12_singersFor 2 := ⟨cwX12_singersFor, jm_tw (n := 1894) (by decide +kernel) rfl, vwX12_singersFor.1, vwX12_singersFor.2⟩
theorem mX12_465 : jm_mv RX12 465 iX12_onesOf 1 := ⟨cwX12_onesOf, jm_tw (n := 1898) (by decide +kernel) rfl, vwX12_onesOf.1, vwX12_onesOf.2⟩
theorem mX12_468 : jm_mv RX12 468 iX12_doAgree 2 := ⟨cwX12_doAgree, jm_tw (n := 1910) (by decide +kernel) rfl, vwX12_doAgree.1, vwX12_doAgree.2⟩
theorem mX12_471 : jm_mv RX12 471 iX12_isChoir 1 := ⟨cwX12_isChoir, jm_tw (n := 1906) (by decide +kernel) rfl, vwX12_isChoir.1, vwX12_isChoir.2⟩
theorem mX12_474 : jm_mv RX12 474 iX12_valueIn 2 := ⟨cwX12_valueIn, jm_tw (n := 1926) (by decide +kernel) rfl, vwX12_valueIn.1, vwX12_valueIn.2⟩
theorem mX12_477 : jm_mv RX12 477 iX12_liarsIn 1 := ⟨cwX12_liarsIn, jm_tw (n := 1922) (by decide +kernel) rfl, vwX12_liarsIn.1, vwX12_liarsIn.2⟩
theorem mX12_480 : jm_mv RX12 480 iX12_findsWorlds 1 := ⟨cwX12_findsWorlds, jm_tw (n := 1918) (by decide +kernel) rfl, vwX12_findsWorlds.1, vwX12_findsWorlds.2⟩
theorem mX12_483 : jm_mv RX12 483 iX12_mostIn 1 := ⟨cwX12_mostIn, jm_tw (n := 1930) (by decide +kernel) rfl, vwX12_mostIn.1, vwX12_mostIn.2⟩
theorem mX12_486 : jm_mv RX12 486 iX12_isUnlike 4 := ⟨cwX12_isUnlike, jm_tw (n := 1942) (by decide +kernel) rfl, vwX12_isUnlike.1, vwX12_isUnlike.2⟩
theorem mX12_489 : jm_mv RX12 489 iX12_areWitnesses 4 := ⟨cwX12_areWitnesses, jm_tw (n := 1938) (by decide +kernel) rfl, vwX12_areWitnesses.1, vwX12_areWitnesses.2⟩
theorem mX12_499 : jm_mv RX12 499 iX12_keeps 1 := ⟨cwX12_keeps, jm_tw (n := 1950) (by decide +kernel) rfl, vwX12_keeps.1, vwX12_keeps.2⟩
theorem mX12_505 : jm_mv RX12 505 iX12_keepsTold 0 := ⟨cwX12_keepsTold, jm_tw (n := 1954) (by decide +kernel) rfl, vwX12_keepsTold.1, vwX12_keepsTold.2⟩
theorem mX12_508 : jm_mv RX12 508 iX12_keepsLaw 0 := ⟨cwX12_keepsLaw, jm_tw (n := 1958) (by decide +kernel) rfl, vwX12_keepsLaw.1, vwX12_keepsLaw.2⟩
theorem mX2_27 : jm_mv RX2 27 iX0_motiveOf 2 := ⟨cwX0_motiveOf, jm_tw (n := 773) (by decide +kernel) rfl, vwX0_motiveOf.1, vwX0_motiveOf.2⟩
theorem mX2_31 : jm_mv RX2 31 iX0_canSing 3 := ⟨cwX0_canSing, jm_tw (n := 783) (by decide +kernel) rfl, vwX0_canSing.1, vwX0_canSing.2⟩
theorem mX2_35 : jm_mv RX2 35 iX2_barsOf 2 := ⟨cwX2_barsOf, jm_tw (n := 812) (by decide +kernel) rfl, vwX2_barsOf.1, vwX2_barsOf.2⟩
theorem mX2_38 : jm_mv RX2 38 iX1_hasRoom 1 := ⟨cwX1_hasRoom, jm_tw (n := 816) (by decide +kernel) rfl, vwX1_hasRoom.1, vwX1_hasRoom.2⟩
theorem mX2_63 : jm_mv RX2 63 iX2_singNotes 3 := ⟨cwX2_singNotes, jm_tw (n := 836) (by decide +kernel) rfl, vwX2_singNotes.1, vwX2_singNotes.2⟩
theorem mX2_67 : jm_mv RX2 67 iX0_shakeOf 2 := ⟨cwX0_shakeOf, jm_tw (n := 882) (by decide +kernel) rfl, vwX0_shakeOf.1, vwX0_shakeOf.2⟩
theorem mX2_70 : jm_mv RX2 70 iX2_loseNerve 2 := ⟨cwX2_loseNerve, jm_tw (n := 886) (by decide +kernel) rfl, vwX2_loseNerve.1, vwX2_loseNerve.2⟩
theorem mX2_74 : jm_mv RX2 74 iX1_addTestimony 4 := ⟨cwX1_addTestimony, jm_tw (n := 891) (by decide +kernel) rfl, vwX1_addTestimony.1, vwX1_addTestimony.2⟩
theorem mX2_78 : jm_mv RX2 78 iX1_write 4 := ⟨cwX1_write, jm_tw (n := 895) (by decide +kernel) rfl, vwX1_write.1, vwX1_write.2⟩
theorem mX2_81 : jm_mv RX2 81 iX1_addBar 1 := ⟨cwX1_addBar, jm_tw (n := 840) (by decide +kernel) rfl, vwX1_addBar.1, vwX1_addBar.2⟩
theorem mX2_85 : jm_mv RX2 85 iX1_draw 1 := ⟨cwX1_draw, jm_tw (n := 844) (by decide +kernel) rfl, vwX1_draw.1, vwX1_draw.2⟩
theorem mX2_89 : jm_mv RX2 89 iX0_slipOf 4 := ⟨cwX0_slipOf, jm_tw (n := 850) (by decide +kernel) rfl, vwX0_slipOf.1, vwX0_slipOf.2⟩
theorem mX2_93 : jm_mv RX2 93 iX5_stepOf 2 := ⟨cwX5_stepOf, jm_tw (n := 881) (by decide +kernel) rfl, vwX5_stepOf.1, vwX5_stepOf.2⟩
theorem mX2_99 : jm_mth RX2 99 Lib.Math.max.name Lib.Math.max.code 2 := ⟨jm_tw (n := 890) (by decide +kernel) rfl, jm_tw (n := 801) (by decide +kernel) rfl, jm_tw (n := 19) (by decide +kernel) rfl, jm_tw (n := 802) (by decide +kernel) rfl⟩
theorem mX2_107 : jm_mth RX2 107 Lib.Math.min.name Lib.Math.min.code 2 := ⟨jm_tw (n := 929) (by decide +kernel) rfl, jm_tw (n := 830) (by decide +kernel) rfl, jm_tw (n := 19) (by decide +kernel) rfl, jm_tw (n := 831) (by decide +kernel) rfl⟩
theorem mX2_124 : jm_mv RX2 124 iX2_restOneDay 0 := ⟨cwX2_restOneDay, jm_tw (n := 946) (by decide +kernel) rfl, vwX2_restOneDay.1, vwX2_restOneDay.2⟩
theorem mX2_130 : jm_mv RX2 130 iX2_crossExamine 1 := ⟨cwX2_crossExamine, jm_tw (n := 947) (by decide +kernel) rfl, vwX2_crossExamine.1, vwX2_crossExamine.2⟩
theorem mX2_139 : jm_mv RX2 139 iX2_canBeCalled 3 := ⟨cwX2_canBeCalled, jm_tw (n := 948) (by decide +kernel) rfl, vwX2_canBeCalled.1, vwX2_canBeCalled.2⟩
theorem mX2_142 : jm_mv RX2 142 iX2_sing 3 := ⟨cwX2_sing, jm_tw (n := 949) (by decide +kernel) rfl, vwX2_sing.1, vwX2_sing.2⟩
theorem mX3_37 : jm_acp RX3 37 := ⟨jm_tw (n := 707) (by decide +kernel) rfl, jm_tw (n := 644) (by decide +kernel) rfl, jm_tw (n := 643) (by decide +kernel) rfl, jm_tw (n := 18) (by decide +kernel) rfl⟩
theorem mX3_43 : jm_mv RX3 43 iX3_worth 3 := ⟨cwX3_worth, jm_tw (n := 870) (by decide +kernel) rfl, vwX3_worth.1, vwX3_worth.2⟩
theorem mX3_47 : jm_ms RX3 47 iX3_joined 3 := ⟨cwX3_joined, jm_tw (n := 874) (by decide +kernel) rfl, vwX3_joined⟩
theorem mX4_25 : jm_mv RX4 25 iX3_clear 0 := ⟨cwX3_clear, jm_tw (n := 649) (by decide +kernel) rfl, vwX3_clear.1, vwX3_clear.2⟩
theorem mX4_28 : jm_mv RX4 28 iX7_kind 0 := ⟨cwX7_kind, jm_tw (n := 653) (by decide +kernel) rfl, vwX7_kind.1, vwX7_kind.2⟩
theorem mX4_32 {g : jm_G} (hg : jm_HC g) : jm_mn g RX4 32 iX11_isWithin "SungEvidence" 3 := ⟨cwX11_isWithin, vwX11_isWithin, fun s h => nwX4_32 hg s h⟩
theorem mX4_36 : jm_mv RX4 36 iX7_refuse 1 := ⟨cwX7_refuse, jm_tw (n := 655) (by decide +kernel) rfl, vwX7_refuse.1, vwX7_refuse.2⟩
theorem mX4_40 : jm_mv RX4 40 iX7_skip 0 := ⟨cwX7_skip, jm_tw (n := 656) (by decide +kernel) rfl, vwX7_skip.1, vwX7_skip.2⟩
theorem mX4_43 : jm_mv RX4 43 iX3_openLine 1 := ⟨cwX3_openLine, jm_tw (n := 657) (by decide +kernel) rfl, vwX3_openLine.1, vwX3_openLine.2⟩
theorem mX4_47 : jm_mv RX4 47 iX4_readSum 0 := ⟨cwX4_readSum, jm_tw (n := 661) (by decide +kernel) rfl, vwX4_readSum.1, vwX4_readSum.2⟩
theorem mX4_51 : jm_mv RX4 51 iX3_openCondition 0 := ⟨cwX3_openCondition, jm_tw (n := 679) (by decide +kernel) rfl, vwX3_openCondition.1, vwX3_openCondition.2⟩
theorem mX4_54 : jm_mv RX4 54 iX4_readCondition 1 := ⟨cwX4_readCondition, jm_tw (n := 683) (by decide +kernel) rfl, vwX4_readCondition.1, vwX4_readCondition.2⟩
theorem mX4_57 : jm_mv RX4 57 iX3_closeLine 0 := ⟨cwX3_closeLine, jm_tw (n := 695) (by decide +kernel) rfl, vwX3_closeLine.1, vwX3_closeLine.2⟩
theorem mX4_60 : jm_mv RX4 60 iX7_take 1 := ⟨cwX7_take, jm_tw (n := 691) (by decide +kernel) rfl, vwX7_take.1, vwX7_take.2⟩
theorem mX4_63 : jm_mv RX4 63 iX4_readTest 1 := ⟨cwX4_readTest, jm_tw (n := 687) (by decide +kernel) rfl, vwX4_readTest.1, vwX4_readTest.2⟩
theorem mX4_66 : jm_mv RX4 66 iX3_addOrder 2 := ⟨cwX3_addOrder, jm_tw (n := 674) (by decide +kernel) rfl, vwX3_addOrder.1, vwX3_addOrder.2⟩
theorem mX4_70 : jm_ms RX4 70 iX4_comparisonOf 1 := ⟨cwX4_comparisonOf, jm_tw (n := 692) (by decide +kernel) rfl, vwX4_comparisonOf⟩
theorem mX4_74 : jm_mv RX4 74 iX4_readProduct 0 := ⟨cwX4_readProduct, jm_tw (n := 665) (by decide +kernel) rfl, vwX4_readProduct.1, vwX4_readProduct.2⟩
theorem mX4_77 : jm_mv RX4 77 iX4_readUnit 0 := ⟨cwX4_readUnit, jm_tw (n := 669) (by decide +kernel) rfl, vwX4_readUnit.1, vwX4_readUnit.2⟩
theorem mX4_80 : jm_mv RX4 80 iX7_isNumberWithin 2 := ⟨cwX7_isNumberWithin, jm_tw (n := 678) (by decide +kernel) rfl, vwX7_isNumberWithin.1, vwX7_isNumberWithin.2⟩
theorem mX4_83 : jm_mv RX4 83 iX7_number 0 := ⟨cwX7_number, jm_tw (n := 673) (by decide +kernel) rfl, vwX7_number.1, vwX7_number.2⟩
theorem mX5_24 : jm_acp RX5 24 := ⟨jm_tw (n := 642) (by decide +kernel) rfl, jm_tw (n := 644) (by decide +kernel) rfl, jm_tw (n := 643) (by decide +kernel) rfl, jm_tw (n := 18) (by decide +kernel) rfl⟩
theorem mX5_30 {g : jm_G} (hg : jm_HC g) : jm_mn g RX5 30 iX11_isWithin "SungEvidence" 3 := ⟨cwX11_isWithin, vwX11_isWithin, fun s h => nwX5_30 hg s h⟩
theorem mX5_34 : jm_mv RX5 34 iX5_stepOf 2 := ⟨cwX5_stepOf, jm_tw (n := 795) (by decide +kernel) rfl, vwX5_stepOf.1, vwX5_stepOf.2⟩
theorem mX5_38 : jm_mth RX5 38 Lib.Math.max.name Lib.Math.max.code 2 := ⟨jm_tw (n := 800) (by decide +kernel) rfl, jm_tw (n := 801) (by decide +kernel) rfl, jm_tw (n := 19) (by decide +kernel) rfl, jm_tw (n := 802) (by decide +kernel) rfl⟩
theorem mX5_43 : jm_mv RX5 43 iX7_kind 0 := ⟨cwX7_kind, jm_tw (n := 596) (by decide +kernel) rfl, vwX7_kind.1, vwX7_kind.2⟩
theorem mX5_47 : jm_mv RX5 47 iX5_readLine 1 := ⟨cwX5_readLine, jm_tw (n := 600) (by decide +kernel) rfl, vwX5_readLine.1, vwX5_readLine.2⟩
theorem mX5_51 : jm_mv RX5 51 iX7_refuse 1 := ⟨cwX7_refuse, jm_tw (n := 604) (by decide +kernel) rfl, vwX7_refuse.1, vwX7_refuse.2⟩
theorem mX5_55 : jm_mv RX5 55 iX7_take 1 := ⟨cwX7_take, jm_tw (n := 608) (by decide +kernel) rfl, vwX7_take.1, vwX7_take.2⟩
theorem mX5_58 : jm_mv RX5 58 iX7_isNumberWithin 2 := ⟨cwX7_isNumberWithin, jm_tw (n := 617) (by decide +kernel) rfl, vwX7_isNumberWithin.1, vwX7_isNumberWithin.2⟩
theorem mX5_62 : jm_mv RX5 62 iX7_number 0 := ⟨cwX7_number, jm_tw (n := 625) (by decide +kernel) rfl, vwX7_number.1, vwX7_number.2⟩
theorem mX5_65 : jm_mv RX5 65 iX7_skip 0 := ⟨cwX7_skip, jm_tw (n := 626) (by decide +kernel) rfl, vwX7_skip.1, vwX7_skip.2⟩
theorem mX5_68 : jm_mv RX5 68 iX5_readSteps 2 := ⟨cwX5_readSteps, jm_tw (n := 627) (by decide +kernel) rfl, vwX5_readSteps.1, vwX5_readSteps.2⟩
theorem mX5_72 : jm_ms RX5 72 iX5_readStep 2 := ⟨cwX5_readStep, jm_tw (n := 631) (by decide +kernel) rfl, vwX5_readStep⟩
theorem mX6_39 : jm_acp RX6 39 := ⟨jm_tw (n := 759) (by decide +kernel) rfl, jm_tw (n := 644) (by decide +kernel) rfl, jm_tw (n := 643) (by decide +kernel) rfl, jm_tw (n := 18) (by decide +kernel) rfl⟩
theorem mX6_45 : jm_mv RX6 45 iX7_kind 0 := ⟨cwX7_kind, jm_tw (n := 712) (by decide +kernel) rfl, vwX7_kind.1, vwX7_kind.2⟩
theorem mX6_49 : jm_mv RX6 49 iX6_readEnd 1 := ⟨cwX6_readEnd, jm_tw (n := 713) (by decide +kernel) rfl, vwX6_readEnd.1, vwX6_readEnd.2⟩
theorem mX6_53 : jm_mv RX6 53 iX6_readDeed 2 := ⟨cwX6_readDeed, jm_tw (n := 718) (by decide +kernel) rfl, vwX6_readDeed.1, vwX6_readDeed.2⟩
theorem mX6_57 : jm_mv RX6 57 iX7_refuse 1 := ⟨cwX7_refuse, jm_tw (n := 717) (by decide +kernel) rfl, vwX7_refuse.1, vwX7_refuse.2⟩
theorem mX6_61 : jm_mv RX6 61 iX6_readCall 2 := ⟨cwX6_readCall, jm_tw (n := 722) (by decide +kernel) rfl, vwX6_readCall.1, vwX6_readCall.2⟩
theorem mX6_64 : jm_mv RX6 64 iX6_readCross 2 := ⟨cwX6_readCross, jm_tw (n := 734) (by decide +kernel) rfl, vwX6_readCross.1, vwX6_readCross.2⟩
theorem mX6_67 : jm_mv RX6 67 iX7_skip 0 := ⟨cwX7_skip, jm_tw (n := 726) (by decide +kernel) rfl, vwX7_skip.1, vwX7_skip.2⟩
theorem mX6_70 : jm_mv RX6 70 iX6_addDeed 4 := ⟨cwX6_addDeed, jm_tw (n := 730) (by decide +kernel) rfl, vwX6_addDeed.1, vwX6_addDeed.2⟩
theorem mX6_74 : jm_mv RX6 74 iX6_readAgain 1 := ⟨cwX6_readAgain, jm_tw (n := 738) (by decide +kernel) rfl, vwX6_readAgain.1, vwX6_readAgain.2⟩
theorem mX6_77 : jm_mv RX6 77 iX6_closeAgain 1 := ⟨cwX6_closeAgain, jm_tw (n := 742) (by decide +kernel) rfl, vwX6_closeAgain.1, vwX6_closeAgain.2⟩
theorem mX6_80 : jm_mv RX6 80 iX7_isNumberWithin 2 := ⟨cwX7_isNumberWithin, jm_tw (n := 727) (by decide +kernel) rfl, vwX7_isNumberWithin.1, vwX7_isNumberWithin.2⟩
theorem mX6_84 : jm_mv RX6 84 iX7_number 0 := ⟨cwX7_number, jm_tw (n := 728) (by decide +kernel) rfl, vwX7_number.1, vwX7_number.2⟩
theorem mX6_87 : jm_mv RX6 87 iX7_take 1 := ⟨cwX7_take, jm_tw (n := 729) (by decide +kernel) rfl, vwX7_take.1, vwX7_take.2⟩
theorem mX6_90 : jm_mv RX6 90 iX6_copyDeed 2 := ⟨cwX6_copyDeed, jm_tw (n := 746) (by decide +kernel) rfl, vwX6_copyDeed.1, vwX6_copyDeed.2⟩
theorem mX6_94 {g : jm_G} (hg : jm_HC g) : jm_mn g RX6 94 iX11_isWithin "SungEvidence" 3 := ⟨cwX11_isWithin, vwX11_isWithin, fun s h => nwX6_94 hg s h⟩
theorem mX7_40 : jm_mv RX7 40 iX7_refuse 1 := ⟨cwX7_refuse, jm_tw (n := 612) (by decide +kernel) rfl, vwX7_refuse.1, vwX7_refuse.2⟩
theorem mX7_44 : jm_mv RX7 44 iX7_skip 0 := ⟨cwX7_skip, jm_tw (n := 613) (by decide +kernel) rfl, vwX7_skip.1, vwX7_skip.2⟩
theorem mX7_47 : jm_mv RX7 47 iX7_number 0 := ⟨cwX7_number, jm_tw (n := 621) (by decide +kernel) rfl, vwX7_number.1, vwX7_number.2⟩
theorem mX7_51 {g : jm_G} (hg : jm_HC g) : jm_mn g RX7 51 iX11_isWithin "SungEvidence" 3 := ⟨cwX11_isWithin, vwX11_isWithin, fun s h => nwX7_51 hg s h⟩
theorem mX7_61 : jm_ms RX7 61 iX7_sortOf 1 := ⟨cwX7_sortOf, jm_tw (n := 524) (by decide +kernel) rfl, vwX7_sortOf⟩
theorem mX7_65 : jm_mv RX7 65 iX7_addToken 1 := ⟨cwX7_addToken, jm_tw (n := 528) (by decide +kernel) rfl, vwX7_addToken.1, vwX7_addToken.2⟩
theorem mX7_69 : jm_mv RX7 69 iX7_kindOf 2 := ⟨cwX7_kindOf, jm_tw (n := 532) (by decide +kernel) rfl, vwX7_kindOf.1, vwX7_kindOf.2⟩
theorem mX7_73 : jm_mv RX7 73 iX7_wordOf 2 := ⟨cwX7_wordOf, jm_tw (n := 536) (by decide +kernel) rfl, vwX7_wordOf.1, vwX7_wordOf.2⟩
theorem mX7_76 : jm_mv RX7 76 iJ0_length_8abf5 0 := ⟨cwJ0_length_8abf5, jm_tw (n := 540) (by decide +kernel) rfl, vwJ0_length_8abf5.1, vwJ0_length_8abf5.2⟩
theorem mX7_80 : jm_mv RX7 80 iJ0_charAt_5068e 1 := ⟨cwJ0_charAt_5068e, jm_tw (n := 550) (by decide +kernel) rfl, vwJ0_charAt_5068e.1, vwJ0_charAt_5068e.2⟩
theorem mX7_84 : jm_mv RX7 84 iX7_isSpelled 4 := ⟨cwX7_isSpelled, jm_tw (n := 588) (by decide +kernel) rfl, vwX7_isSpelled.1, vwX7_isSpelled.2⟩
theorem mX8_64 : jm_acp RX8 64 := ⟨jm_tw (n := 1230) (by decide +kernel) rfl, jm_tw (n := 644) (by decide +kernel) rfl, jm_tw (n := 643) (by decide +kernel) rfl, jm_tw (n := 18) (by decide +kernel) rfl⟩
theorem mX8_70 : jm_mv RX8 70 iX5_copyFrom 1 := ⟨cwX5_copyFrom, jm_tw (n := 1231) (by decide +kernel) rfl, vwX5_copyFrom.1, vwX5_copyFrom.2⟩
theorem mX8_74 : jm_mv RX8 74 iX3_copyFrom 1 := ⟨cwX3_copyFrom, jm_tw (n := 1232) (by decide +kernel) rfl, vwX3_copyFrom.1, vwX3_copyFrom.2⟩
theorem mX8_77 : jm_mv RX8 77 iX6_copyFrom 1 := ⟨cwX6_copyFrom, jm_tw (n := 1233) (by decide +kernel) rfl, vwX6_copyFrom.1, vwX6_copyFrom.2⟩
theorem mX8_80 : jm_mv RX8 80 iX8_isWitness 1 := ⟨cwX8_isWitness, jm_tw (n := 781) (by decide +kernel) rfl, vwX8_isWitness.1, vwX8_isWitness.2⟩
theorem mX8_84 {g : jm_G} (hg : jm_HC g) : jm_mn g RX8 84 iX11_isFact "SungEvidence" 1 := ⟨cwX11_isFact, vwX11_isFact, fun s h => nwX8_84 hg s h⟩
theorem mX8_87 : jm_mth RX8 87 Lib.Math.abs.name Lib.Math.abs.code 1 := ⟨jm_tw (n := 1057) (by decide +kernel) rfl, jm_tw (n := 1058) (by decide +kernel) rfl, jm_tw (n := 19) (by decide +kernel) rfl, jm_tw (n := 1059) (by decide +kernel) rfl⟩
theorem mX8_93 : jm_mv RX8 93 iX8_sounds 2 := ⟨cwX8_sounds, jm_tw (n := 1053) (by decide +kernel) rfl, vwX8_sounds.1, vwX8_sounds.2⟩
theorem mX9_40 : jm_mv RX9 40 iX9_weighAll 1 := ⟨cwX9_weighAll, jm_tw (n := 1093) (by decide +kernel) rfl, vwX9_weighAll.1, vwX9_weighAll.2⟩
theorem mX9_50 : jm_mv RX9 50 iX1_ofTestimony 2 := ⟨cwX1_ofTestimony, jm_tw (n := 1097) (by decide +kernel) rfl, vwX1_ofTestimony.1, vwX1_ofTestimony.2⟩
theorem mX9_59 : jm_mv RX9 59 iX0_weightOfTestimony 1 := ⟨cwX0_weightOfTestimony, jm_tw (n := 1098) (by decide +kernel) rfl, vwX0_weightOfTestimony.1, vwX0_weightOfTestimony.2⟩
theorem mX9_63 : jm_mv RX9 63 iX9_missingFor 1 := ⟨cwX9_missingFor, jm_tw (n := 1107) (by decide +kernel) rfl, vwX9_missingFor.1, vwX9_missingFor.2⟩
theorem mX9_69 : jm_mth RX9 69 Lib.Math.max.name Lib.Math.max.code 2 := ⟨jm_tw (n := 1111) (by decide +kernel) rfl, jm_tw (n := 801) (by decide +kernel) rfl, jm_tw (n := 19) (by decide +kernel) rfl, jm_tw (n := 802) (by decide +kernel) rfl⟩
theorem mX9_74 : jm_mv RX9 74 iX9_callable 2 := ⟨cwX9_callable, jm_tw (n := 1120) (by decide +kernel) rfl, vwX9_callable.1, vwX9_callable.2⟩
theorem mX9_80 : jm_ms RX9 80 iJ6_bitCount_0f7a4 1 := ⟨cwJ6_bitCount_0f7a4, jm_tw (n := 1127) (by decide +kernel) rfl, vwJ6_bitCount_0f7a4⟩
theorem mX9_85 : jm_mv RX9 85 iX9_sumOf 1 := ⟨cwX9_sumOf, jm_tw (n := 1133) (by decide +kernel) rfl, vwX9_sumOf.1, vwX9_sumOf.2⟩
theorem mX9_88 : jm_mv RX9 88 iX0_motiveOf 2 := ⟨cwX0_motiveOf, jm_tw (n := 1124) (by decide +kernel) rfl, vwX0_motiveOf.1, vwX0_motiveOf.2⟩
theorem mX9_91 : jm_mv RX9 91 iX0_howManyKeys 2 := ⟨cwX0_howManyKeys, jm_tw (n := 1125) (by decide +kernel) rfl, vwX0_howManyKeys.1, vwX0_howManyKeys.2⟩
theorem mX9_94 : jm_mv RX9 94 iX0_weightOf 3 := ⟨cwX0_weightOf, jm_tw (n := 1126) (by decide +kernel) rfl, vwX0_weightOf.1, vwX0_weightOf.2⟩
theorem mX9_98 : jm_mv RX9 98 iX9_opponentsOf 1 := ⟨cwX9_opponentsOf, jm_tw (n := 1146) (by decide +kernel) rfl, vwX9_opponentsOf.1, vwX9_opponentsOf.2⟩
theorem mX9_101 : jm_mv RX9 101 iX9_agree 1 := ⟨cwX9_agree, jm_tw (n := 1154) (by decide +kernel) rfl, vwX9_agree.1, vwX9_agree.2⟩
theorem mX9_105 : jm_mv RX9 105 iX8_claimOf 2 := ⟨cwX8_claimOf, jm_tw (n := 1150) (by decide +kernel) rfl, vwX8_claimOf.1, vwX8_claimOf.2⟩
theorem mX9_108 : jm_ms RX9 108 iX9_areUnlike 2 := ⟨cwX9_areUnlike, jm_tw (n := 1151) (by decide +kernel) rfl, vwX9_areUnlike⟩
theorem mX9_112 : jm_mv RX9 112 iX9_tellLiars 0 := ⟨cwX9_tellLiars, jm_tw (n := 1166) (by decide +kernel) rfl, vwX9_tellLiars.1, vwX9_tellLiars.2⟩
theorem mX9_115 : jm_mv RX9 115 iX9_countWorlds 3 := ⟨cwX9_countWorlds, jm_tw (n := 1170) (by decide +kernel) rfl, vwX9_countWorlds.1, vwX9_countWorlds.2⟩
theorem mX9_118 : jm_mv RX9 118 iX9_sureFacts 1 := ⟨cwX9_sureFacts, jm_tw (n := 1174) (by decide +kernel) rfl, vwX9_sureFacts.1, vwX9_sureFacts.2⟩
theorem mX9_121 : jm_mv RX9 121 iX9_factToAsk 1 := ⟨cwX9_factToAsk, jm_tw (n := 1182) (by decide +kernel) rfl, vwX9_factToAsk.1, vwX9_factToAsk.2⟩
theorem mX9_124 : jm_mv RX9 124 iX9_mostAlike 1 := ⟨cwX9_mostAlike, jm_tw (n := 1178) (by decide +kernel) rfl, vwX9_mostAlike.1, vwX9_mostAlike.2⟩
theorem fX0_11 : jm_fl RX0 11 0 2 := ⟨(RX0, TX0, 3), rfl, by decide, uX0, jm_tw (n := 301) (by decide +kernel) rfl⟩
theorem fX0_15 : jm_fl RX0 15 0 0 := ⟨(RX0, TX0, 3), rfl, by decide, uX0, jm_tw (n := 294) (by decide +kernel) rfl⟩
theorem fX0_19 : jm_fl RX0 19 0 1 := ⟨(RX0, TX0, 3), rfl, by decide, uX0, jm_tw (n := 297) (by decide +kernel) rfl⟩
theorem fX0_29 : jm_fl RX0 29 8 10 := ⟨(RX8, TX8, 13), rfl, by decide, uX8, jm_tw (n := 197) (by decide +kernel) rfl⟩
theorem fX0_33 : jm_fl RX0 33 5 1 := ⟨(RX5, TX5, 3), rfl, by decide, uX5, jm_tw (n := 83) (by decide +kernel) rfl⟩
theorem fX0_38 : jm_fl RX0 38 8 1 := ⟨(RX8, TX8, 13), rfl, by decide, uX8, jm_tw (n := 169) (by decide +kernel) rfl⟩
theorem fX0_45 : jm_fl RX0 45 8 2 := ⟨(RX8, TX8, 13), rfl, by decide, uX8, jm_tw (n := 173) (by decide +kernel) rfl⟩
theorem fX0_70 : jm_fl RX0 70 8 11 := ⟨(RX8, TX8, 13), rfl, by decide, uX8, jm_tw (n := 202) (by decide +kernel) rfl⟩
theorem fX0_83 : jm_fl RX0 83 1 3 := ⟨(RX1, TX1, 10), rfl, by decide, uX1, jm_tw (n := 252) (by decide +kernel) rfl⟩
theorem fX0_95 : jm_fl RX0 95 1 2 := ⟨(RX1, TX1, 10), rfl, by decide, uX1, jm_tw (n := 248) (by decide +kernel) rfl⟩
theorem fX0_98 : jm_fl RX0 98 8 3 := ⟨(RX8, TX8, 13), rfl, by decide, uX8, jm_tw (n := 178) (by decide +kernel) rfl⟩
theorem fX0_101 : jm_fl RX0 101 1 1 := ⟨(RX1, TX1, 10), rfl, by decide, uX1, jm_tw (n := 243) (by decide +kernel) rfl⟩
theorem fX1_9 : jm_fl RX1 9 1 0 := ⟨(RX1, TX1, 10), rfl, by decide, uX1, jm_tw (n := 239) (by decide +kernel) rfl⟩
theorem fX1_15 : jm_fl RX1 15 1 1 := ⟨(RX1, TX1, 10), rfl, by decide, uX1, jm_tw (n := 241) (by decide +kernel) rfl⟩
theorem fX1_18 : jm_fl RX1 18 1 2 := ⟨(RX1, TX1, 10), rfl, by decide, uX1, jm_tw (n := 245) (by decide +kernel) rfl⟩
theorem fX1_22 : jm_fl RX1 22 1 3 := ⟨(RX1, TX1, 10), rfl, by decide, uX1, jm_tw (n := 249) (by decide +kernel) rfl⟩
theorem fX1_25 : jm_fl RX1 25 1 4 := ⟨(RX1, TX1, 10), rfl, by decide, uX1, jm_tw (n := 253) (by decide +kernel) rfl⟩
theorem fX1_28 : jm_fl RX1 28 1 5 := ⟨(RX1, TX1, 10), rfl, by decide, uX1, jm_tw (n := 256) (by decide +kernel) rfl⟩
theorem fX1_31 : jm_fl RX1 31 1 6 := ⟨(RX1, TX1, 10), rfl, by decide, uX1, jm_tw (n := 257) (by decide +kernel) rfl⟩
theorem fX1_34 : jm_fl RX1 34 1 7 := ⟨(RX1, TX1, 10), rfl, by decide, uX1, jm_tw (n := 260) (by decide +kernel) rfl⟩
theorem fX1_37 : jm_fl RX1 37 1 8 := ⟨(RX1, TX1, 10), rfl, by decide, uX1, jm_tw (n := 262) (by decide +kernel) rfl⟩
theorem fX1_40 : jm_fl RX1 40 1 9 := ⟨(RX1, TX1, 10), rfl, by decide, uX1, jm_tw (n := 264) (by decide +kernel) rfl⟩
theorem fX10_9 : jm_fl RX10 9 10 3 := ⟨(RX10, TX10, 5), rfl, by decide, uX10, jm_tw (n := 334) (by decide +kernel) rfl⟩
theorem fX10_15 : jm_fl RX10 15 10 4 := ⟨(RX10, TX10, 5), rfl, by decide, uX10, jm_tw (n := 335) (by decide +kernel) rfl⟩
theorem fX10_19 : jm_fl RX10 19 10 0 := ⟨(RX10, TX10, 5), rfl, by decide, uX10, jm_tw (n := 331) (by decide +kernel) rfl⟩
theorem fX10_29 : jm_fl RX10 29 10 1 := ⟨(RX10, TX10, 5), rfl, by decide, uX10, jm_tw (n := 332) (by decide +kernel) rfl⟩
theorem fX10_34 : jm_fl RX10 34 10 2 := ⟨(RX10, TX10, 5), rfl, by decide, uX10, jm_tw (n := 333) (by decide +kernel) rfl⟩
theorem fX10_36 : jm_fl RX10 36 8 10 := ⟨(RX8, TX8, 13), rfl, by decide, uX8, jm_tw (n := 198) (by decide +kernel) rfl⟩
theorem fX10_42 : jm_fl RX10 42 5 1 := ⟨(RX5, TX5, 3), rfl, by decide, uX5, jm_tw (n := 84) (by decide +kernel) rfl⟩
theorem fX10_59 : jm_fl RX10 59 8 8 := ⟨(RX8, TX8, 13), rfl, by decide, uX8, jm_tw (n := 191) (by decide +kernel) rfl⟩
theorem fX10_81 : jm_fl RX10 81 8 9 := ⟨(RX8, TX8, 13), rfl, by decide, uX8, jm_tw (n := 194) (by decide +kernel) rfl⟩
theorem fX10_109 : jm_fl RX10 109 8 1 := ⟨(RX8, TX8, 13), rfl, by decide, uX8, jm_tw (n := 170) (by decide +kernel) rfl⟩
theorem fX10_112 : jm_fl RX10 112 8 2 := ⟨(RX8, TX8, 13), rfl, by decide, uX8, jm_tw (n := 174) (by decide +kernel) rfl⟩
theorem fX11_12 : jm_fl RX11 12 11 0 := ⟨(RX11, TX11, 17), rfl, by decide, uX11, jm_tw (n := 396) (by decide +kernel) rfl⟩
theorem fX11_19 : jm_fl RX11 19 11 1 := ⟨(RX11, TX11, 17), rfl, by decide, uX11, jm_tw (n := 397) (by decide +kernel) rfl⟩
theorem fX11_26 : jm_fl RX11 26 11 2 := ⟨(RX11, TX11, 17), rfl, by decide, uX11, jm_tw (n := 398) (by decide +kernel) rfl⟩
theorem fX11_35 : jm_fl RX11 35 11 3 := ⟨(RX11, TX11, 17), rfl, by decide, uX11, jm_tw (n := 399) (by decide +kernel) rfl⟩
theorem fX11_44 : jm_fl RX11 44 11 4 := ⟨(RX11, TX11, 17), rfl, by decide, uX11, jm_tw (n := 400) (by decide +kernel) rfl⟩
theorem fX11_51 : jm_fl RX11 51 11 5 := ⟨(RX11, TX11, 17), rfl, by decide, uX11, jm_tw (n := 401) (by decide +kernel) rfl⟩
theorem fX11_58 : jm_fl RX11 58 11 6 := ⟨(RX11, TX11, 17), rfl, by decide, uX11, jm_tw (n := 402) (by decide +kernel) rfl⟩
theorem fX11_65 : jm_fl RX11 65 11 7 := ⟨(RX11, TX11, 17), rfl, by decide, uX11, jm_tw (n := 403) (by decide +kernel) rfl⟩
theorem fX11_72 : jm_fl RX11 72 11 8 := ⟨(RX11, TX11, 17), rfl, by decide, uX11, jm_tw (n := 404) (by decide +kernel) rfl⟩
theorem fX11_79 : jm_fl RX11 79 11 9 := ⟨(RX11, TX11, 17), rfl, by decide, uX11, jm_tw (n := 405) (by decide +kernel) rfl⟩
theorem fX11_88 : jm_fl RX11 88 11 10 := ⟨(RX11, TX11, 17), rfl, by decide, uX11, jm_tw (n := 406) (by decide +kernel) rfl⟩
theorem fX11_92 : jm_fl RX11 92 11 11 := ⟨(RX11, TX11, 17), rfl, by decide, uX11, jm_tw (n := 407) (by decide +kernel) rfl⟩
theorem fX11_95 : jm_fl RX11 95 11 12 := ⟨(RX11, TX11, 17), rfl, by decide, uX11, jm_tw (n := 408) (by decide +kernel) rfl⟩
theorem fX11_98 : jm_fl RX11 98 11 13 := ⟨(RX11, TX11, 17), rfl, by decide, uX11, jm_tw (n := 409) (by decide +kernel) rfl⟩
theorem fX11_102 : jm_fl RX11 102 11 14 := ⟨(RX11, TX11, 17), rfl, by decide, uX11, jm_tw (n := 410) (by decide +kernel) rfl⟩
theorem fX11_106 : jm_fl RX11 106 11 15 := ⟨(RX11, TX11, 17), rfl, by decide, uX11, jm_tw (n := 411) (by decide +kernel) rfl⟩
theorem fX11_110 : jm_fl RX11 110 11 16 := ⟨(RX11, TX11, 17), rfl, by decide, uX11, jm_tw (n := 412) (by decide +kernel) rfl⟩
theorem fX11_113 : jm_fl RX11 113 1 0 := ⟨(RX1, TX1, 10), rfl, by decide, uX1, jm_tw (n := 240) (by decide +kernel) rfl⟩
theorem fX11_127 : jm_fl RX11 127 8 0 := ⟨(RX8, TX8, 13), rfl, by decide, uX8, jm_tw (n := 165) (by decide +kernel) rfl⟩
theorem fX11_134 : jm_fl RX11 134 1 2 := ⟨(RX1, TX1, 10), rfl, by decide, uX1, jm_tw (n := 246) (by decide +kernel) rfl⟩
theorem fX11_138 : jm_fl RX11 138 1 3 := ⟨(RX1, TX1, 10), rfl, by decide, uX1, jm_tw (n := 250) (by decide +kernel) rfl⟩
theorem fX11_147 : jm_fl RX11 147 8 4 := ⟨(RX8, TX8, 13), rfl, by decide, uX8, jm_tw (n := 181) (by decide +kernel) rfl⟩
theorem fX11_164 : jm_fl RX11 164 7 1 := ⟨(RX7, TX7, 9), rfl, by decide, uX7, jm_tw (n := 38) (by decide +kernel) rfl⟩
theorem fX11_194 : jm_fl RX11 194 7 2 := ⟨(RX7, TX7, 9), rfl, by decide, uX7, jm_tw (n := 40) (by decide +kernel) rfl⟩
theorem fX11_197 : jm_fl RX11 197 7 3 := ⟨(RX7, TX7, 9), rfl, by decide, uX7, jm_tw (n := 42) (by decide +kernel) rfl⟩
theorem fX11_222 : jm_fl RX11 222 1 1 := ⟨(RX1, TX1, 10), rfl, by decide, uX1, jm_tw (n := 244) (by decide +kernel) rfl⟩
theorem fX11_232 : jm_fl RX11 232 8 12 := ⟨(RX8, TX8, 13), rfl, by decide, uX8, jm_tw (n := 205) (by decide +kernel) rfl⟩
theorem fX11_245 : jm_fl RX11 245 8 1 := ⟨(RX8, TX8, 13), rfl, by decide, uX8, jm_tw (n := 171) (by decide +kernel) rfl⟩
theorem fX11_248 : jm_fl RX11 248 8 2 := ⟨(RX8, TX8, 13), rfl, by decide, uX8, jm_tw (n := 175) (by decide +kernel) rfl⟩
theorem fX11_251 : jm_fl RX11 251 8 3 := ⟨(RX8, TX8, 13), rfl, by decide, uX8, jm_tw (n := 179) (by decide +kernel) rfl⟩
theorem fX11_263 : jm_fl RX11 263 1 6 := ⟨(RX1, TX1, 10), rfl, by decide, uX1, jm_tw (n := 259) (by decide +kernel) rfl⟩
theorem fX11_266 : jm_fl RX11 266 1 7 := ⟨(RX1, TX1, 10), rfl, by decide, uX1, jm_tw (n := 261) (by decide +kernel) rfl⟩
theorem fX11_269 : jm_fl RX11 269 8 10 := ⟨(RX8, TX8, 13), rfl, by decide, uX8, jm_tw (n := 200) (by decide +kernel) rfl⟩
theorem fX11_272 : jm_fl RX11 272 5 1 := ⟨(RX5, TX5, 3), rfl, by decide, uX5, jm_tw (n := 86) (by decide +kernel) rfl⟩
theorem fX11_278 : jm_fl RX11 278 1 8 := ⟨(RX1, TX1, 10), rfl, by decide, uX1, jm_tw (n := 263) (by decide +kernel) rfl⟩
theorem fX11_281 : jm_fl RX11 281 1 9 := ⟨(RX1, TX1, 10), rfl, by decide, uX1, jm_tw (n := 265) (by decide +kernel) rfl⟩
theorem fX11_303 : jm_fl RX11 303 8 8 := ⟨(RX8, TX8, 13), rfl, by decide, uX8, jm_tw (n := 192) (by decide +kernel) rfl⟩
theorem fX11_306 : jm_fl RX11 306 8 9 := ⟨(RX8, TX8, 13), rfl, by decide, uX8, jm_tw (n := 195) (by decide +kernel) rfl⟩
theorem fX11_355 : jm_fl RX11 355 1 4 := ⟨(RX1, TX1, 10), rfl, by decide, uX1, jm_tw (n := 255) (by decide +kernel) rfl⟩
theorem fX11_358 : jm_fl RX11 358 5 0 := ⟨(RX5, TX5, 3), rfl, by decide, uX5, jm_tw (n := 81) (by decide +kernel) rfl⟩
theorem fX11_359 : jm_fl RX11 359 8 11 := ⟨(RX8, TX8, 13), rfl, by decide, uX8, jm_tw (n := 203) (by decide +kernel) rfl⟩
theorem fX11_362 : jm_fl RX11 362 3 0 := ⟨(RX3, TX3, 8), rfl, by decide, uX3, jm_tw (n := 102) (by decide +kernel) rfl⟩
theorem fX11_363 : jm_fl RX11 363 6 0 := ⟨(RX6, TX6, 8), rfl, by decide, uX6, jm_tw (n := 135) (by decide +kernel) rfl⟩
theorem fX11_366 : jm_fl RX11 366 8 5 := ⟨(RX8, TX8, 13), rfl, by decide, uX8, jm_tw (n := 183) (by decide +kernel) rfl⟩
theorem fX11_369 : jm_fl RX11 369 8 6 := ⟨(RX8, TX8, 13), rfl, by decide, uX8, jm_tw (n := 186) (by decide +kernel) rfl⟩
theorem fX11_372 : jm_fl RX11 372 8 7 := ⟨(RX8, TX8, 13), rfl, by decide, uX8, jm_tw (n := 189) (by decide +kernel) rfl⟩
theorem fX12_7 : jm_fl RX12 7 12 1 := ⟨(RX12, TX12, 59), rfl, by decide, uX12, jm_tw (n := 1245) (by decide +kernel) rfl⟩
theorem fX12_13 : jm_fl RX12 13 12 2 := ⟨(RX12, TX12, 59), rfl, by decide, uX12, jm_tw (n := 1246) (by decide +kernel) rfl⟩
theorem fX12_16 : jm_fl RX12 16 12 5 := ⟨(RX12, TX12, 59), rfl, by decide, uX12, jm_tw (n := 1249) (by decide +kernel) rfl⟩
theorem fX12_19 : jm_fl RX12 19 12 6 := ⟨(RX12, TX12, 59), rfl, by decide, uX12, jm_tw (n := 1250) (by decide +kernel) rfl⟩
theorem fX12_22 : jm_fl RX12 22 12 7 := ⟨(RX12, TX12, 59), rfl, by decide, uX12, jm_tw (n := 1251) (by decide +kernel) rfl⟩
theorem fX12_25 : jm_fl RX12 25 12 8 := ⟨(RX12, TX12, 59), rfl, by decide, uX12, jm_tw (n := 1252) (by decide +kernel) rfl⟩
theorem fX12_28 : jm_fl RX12 28 12 12 := ⟨(RX12, TX12, 59), rfl, by decide, uX12, jm_tw (n := 1256) (by decide +kernel) rfl⟩
theorem fX12_31 : jm_fl RX12 31 12 18 := ⟨(RX12, TX12, 59), rfl, by decide, uX12, jm_tw (n := 1262) (by decide +kernel) rfl⟩
theorem fX12_34 : jm_fl RX12 34 12 19 := ⟨(RX12, TX12, 59), rfl, by decide, uX12, jm_tw (n := 1263) (by decide +kernel) rfl⟩
theorem fX12_37 : jm_fl RX12 37 12 20 := ⟨(RX12, TX12, 59), rfl, by decide, uX12, jm_tw (n := 1264) (by decide +kernel) rfl⟩
theorem fX12_40 : jm_fl RX12 40 12 21 := ⟨(RX12, TX12, 59), rfl, by decide, uX12, jm_tw (n := 1265) (by decide +kernel) rfl⟩
theorem fX12_43 : jm_fl RX12 43 12 22 := ⟨(RX12, TX12, 59), rfl, by decide, uX12, jm_tw (n := 1266) (by decide +kernel) rfl⟩
theorem fX12_46 : jm_fl RX12 46 12 23 := ⟨(RX12, TX12, 59), rfl, by decide, uX12, jm_tw (n := 1267) (by decide +kernel) rfl⟩
theorem fX12_49 : jm_fl RX12 49 12 24 := ⟨(RX12, TX12, 59), rfl, by decide, uX12, jm_tw (n := 1268) (by decide +kernel) rfl⟩
theorem fX12_52 : jm_fl RX12 52 12 25 := ⟨(RX12, TX12, 59), rfl, by decide, uX12, jm_tw (n := 1269) (by decide +kernel) rfl⟩
theorem fX12_55 : jm_fl RX12 55 12 29 := ⟨(RX12, TX12, 59), rfl, by decide, uX12, jm_tw (n := 1273) (by decide +kernel) rfl⟩
theorem fX12_58 : jm_fl RX12 58 12 34 := ⟨(RX12, TX12, 59), rfl, by decide, uX12, jm_tw (n := 1278) (by decide +kernel) rfl⟩
theorem fX12_62 : jm_fl RX12 62 12 36 := ⟨(RX12, TX12, 59), rfl, by decide, uX12, jm_tw (n := 1280) (by decide +kernel) rfl⟩
theorem fX12_65 : jm_fl RX12 65 12 37 := ⟨(RX12, TX12, 59), rfl, by decide, uX12, jm_tw (n := 1281) (by decide +kernel) rfl⟩
theorem fX12_68 : jm_fl RX12 68 12 40 := ⟨(RX12, TX12, 59), rfl, by decide, uX12, jm_tw (n := 1284) (by decide +kernel) rfl⟩
theorem fX12_71 : jm_fl RX12 71 12 41 := ⟨(RX12, TX12, 59), rfl, by decide, uX12, jm_tw (n := 1285) (by decide +kernel) rfl⟩
theorem fX12_74 : jm_fl RX12 74 12 42 := ⟨(RX12, TX12, 59), rfl, by decide, uX12, jm_tw (n := 1286) (by decide +kernel) rfl⟩
theorem fX12_77 : jm_fl RX12 77 12 43 := ⟨(RX12, TX12, 59), rfl, by decide, uX12, jm_tw (n := 1287) (by decide +kernel) rfl⟩
theorem fX12_80 : jm_fl RX12 80 12 44 := ⟨(RX12, TX12, 59), rfl, by decide, uX12, jm_tw (n := 1288) (by decide +kernel) rfl⟩
theorem fX12_83 : jm_fl RX12 83 12 45 := ⟨(RX12, TX12, 59), rfl, by decide, uX12, jm_tw (n := 1289) (by decide +kernel) rfl⟩
theorem fX12_86 : jm_fl RX12 86 12 46 := ⟨(RX12, TX12, 59), rfl, by decide, uX12, jm_tw (n := 1290) (by decide +kernel) rfl⟩
theorem fX12_89 : jm_fl RX12 89 12 47 := ⟨(RX12, TX12, 59), rfl, by decide, uX12, jm_tw (n := 1291) (by decide +kernel) rfl⟩
theorem fX12_92 : jm_fl RX12 92 12 51 := ⟨(RX12, TX12, 59), rfl, by decide, uX12, jm_tw (n := 1295) (by decide +kernel) rfl⟩
theorem fX12_95 : jm_fl RX12 95 12 53 := ⟨(RX12, TX12, 59), rfl, by decide, uX12, jm_tw (n := 1297) (by decide +kernel) rfl⟩
theorem fX12_98 : jm_fl RX12 98 12 54 := ⟨(RX12, TX12, 59), rfl, by decide, uX12, jm_tw (n := 1298) (by decide +kernel) rfl⟩
theorem fX12_101 : jm_fl RX12 101 12 58 := ⟨(RX12, TX12, 59), rfl, by decide, uX12, jm_tw (n := 1302) (by decide +kernel) rfl⟩
theorem fX12_104 : jm_fl RX12 104 12 0 := ⟨(RX12, TX12, 59), rfl, by decide, uX12, jm_tw (n := 1244) (by decide +kernel) rfl⟩
theorem fX12_107 : jm_fl RX12 107 12 3 := ⟨(RX12, TX12, 59), rfl, by decide, uX12, jm_tw (n := 1247) (by decide +kernel) rfl⟩
theorem fX12_112 : jm_fl RX12 112 12 9 := ⟨(RX12, TX12, 59), rfl, by decide, uX12, jm_tw (n := 1253) (by decide +kernel) rfl⟩
theorem fX12_115 : jm_fl RX12 115 12 10 := ⟨(RX12, TX12, 59), rfl, by decide, uX12, jm_tw (n := 1254) (by decide +kernel) rfl⟩
theorem fX12_118 : jm_fl RX12 118 12 11 := ⟨(RX12, TX12, 59), rfl, by decide, uX12, jm_tw (n := 1255) (by decide +kernel) rfl⟩
theorem fX12_121 : jm_fl RX12 121 12 4 := ⟨(RX12, TX12, 59), rfl, by decide, uX12, jm_tw (n := 1248) (by decide +kernel) rfl⟩
theorem fX12_146 : jm_fl RX12 146 12 13 := ⟨(RX12, TX12, 59), rfl, by decide, uX12, jm_tw (n := 1257) (by decide +kernel) rfl⟩
theorem fX12_153 : jm_fl RX12 153 12 14 := ⟨(RX12, TX12, 59), rfl, by decide, uX12, jm_tw (n := 1258) (by decide +kernel) rfl⟩
theorem fX12_160 : jm_fl RX12 160 12 15 := ⟨(RX12, TX12, 59), rfl, by decide, uX12, jm_tw (n := 1259) (by decide +kernel) rfl⟩
theorem fX12_163 : jm_fl RX12 163 12 16 := ⟨(RX12, TX12, 59), rfl, by decide, uX12, jm_tw (n := 1260) (by decide +kernel) rfl⟩
theorem fX12_166 : jm_fl RX12 166 12 17 := ⟨(RX12, TX12, 59), rfl, by decide, uX12, jm_tw (n := 1261) (by decide +kernel) rfl⟩
theorem fX12_182 : jm_fl RX12 182 12 31 := ⟨(RX12, TX12, 59), rfl, by decide, uX12, jm_tw (n := 1275) (by decide +kernel) rfl⟩
theorem fX12_185 : jm_fl RX12 185 12 32 := ⟨(RX12, TX12, 59), rfl, by decide, uX12, jm_tw (n := 1276) (by decide +kernel) rfl⟩
theorem fX12_188 : jm_fl RX12 188 12 27 := ⟨(RX12, TX12, 59), rfl, by decide, uX12, jm_tw (n := 1271) (by decide +kernel) rfl⟩
theorem fX12_216 : jm_fl RX12 216 12 30 := ⟨(RX12, TX12, 59), rfl, by decide, uX12, jm_tw (n := 1274) (by decide +kernel) rfl⟩
theorem fX12_219 : jm_fl RX12 219 12 28 := ⟨(RX12, TX12, 59), rfl, by decide, uX12, jm_tw (n := 1272) (by decide +kernel) rfl⟩
theorem fX12_241 : jm_fl RX12 241 12 26 := ⟨(RX12, TX12, 59), rfl, by decide, uX12, jm_tw (n := 1270) (by decide +kernel) rfl⟩
theorem fX12_259 : jm_fl RX12 259 12 38 := ⟨(RX12, TX12, 59), rfl, by decide, uX12, jm_tw (n := 1282) (by decide +kernel) rfl⟩
theorem fX12_290 : jm_fl RX12 290 12 35 := ⟨(RX12, TX12, 59), rfl, by decide, uX12, jm_tw (n := 1279) (by decide +kernel) rfl⟩
theorem fX12_293 : jm_fl RX12 293 12 39 := ⟨(RX12, TX12, 59), rfl, by decide, uX12, jm_tw (n := 1283) (by decide +kernel) rfl⟩
theorem fX12_296 : jm_fl RX12 296 12 33 := ⟨(RX12, TX12, 59), rfl, by decide, uX12, jm_tw (n := 1277) (by decide +kernel) rfl⟩
theorem fX12_410 : jm_fl RX12 410 12 48 := ⟨(RX12, TX12, 59), rfl, by decide, uX12, jm_tw (n := 1292) (by decide +kernel) rfl⟩
theorem fX12_413 : jm_fl RX12 413 12 49 := ⟨(RX12, TX12, 59), rfl, by decide, uX12, jm_tw (n := 1293) (by decide +kernel) rfl⟩
theorem fX12_416 : jm_fl RX12 416 12 50 := ⟨(RX12, TX12, 59), rfl, by decide, uX12, jm_tw (n := 1294) (by decide +kernel) rfl⟩
theorem fX12_425 : jm_fl RX12 425 12 52 := ⟨(RX12, TX12, 59), rfl, by decide, uX12, jm_tw (n := 1296) (by decide +kernel) rfl⟩
theorem fX12_492 : jm_fl RX12 492 12 57 := ⟨(RX12, TX12, 59), rfl, by decide, uX12, jm_tw (n := 1301) (by decide +kernel) rfl⟩
theorem fX12_495 : jm_fl RX12 495 12 55 := ⟨(RX12, TX12, 59), rfl, by decide, uX12, jm_tw (n := 1299) (by decide +kernel) rfl⟩
theorem fX12_502 : jm_fl RX12 502 12 56 := ⟨(RX12, TX12, 59), rfl, by decide, uX12, jm_tw (n := 1300) (by decide +kernel) rfl⟩
theorem fX2_9 : jm_fl RX2 9 2 0 := ⟨(RX2, TX2, 3), rfl, by decide, uX2, jm_tw (n := 315) (by decide +kernel) rfl⟩
theorem fX2_21 : jm_fl RX2 21 2 1 := ⟨(RX2, TX2, 3), rfl, by decide, uX2, jm_tw (n := 316) (by decide +kernel) rfl⟩
theorem fX2_26 : jm_fl RX2 26 2 2 := ⟨(RX2, TX2, 3), rfl, by decide, uX2, jm_tw (n := 317) (by decide +kernel) rfl⟩
theorem fX2_44 : jm_fl RX2 44 8 10 := ⟨(RX8, TX8, 13), rfl, by decide, uX8, jm_tw (n := 199) (by decide +kernel) rfl⟩
theorem fX2_50 : jm_fl RX2 50 5 1 := ⟨(RX5, TX5, 3), rfl, by decide, uX5, jm_tw (n := 85) (by decide +kernel) rfl⟩
theorem fX2_56 : jm_fl RX2 56 8 3 := ⟨(RX8, TX8, 13), rfl, by decide, uX8, jm_tw (n := 177) (by decide +kernel) rfl⟩
theorem fX2_59 : jm_fl RX2 59 1 6 := ⟨(RX1, TX1, 10), rfl, by decide, uX1, jm_tw (n := 258) (by decide +kernel) rfl⟩
theorem fX2_96 : jm_fl RX2 96 1 2 := ⟨(RX1, TX1, 10), rfl, by decide, uX1, jm_tw (n := 247) (by decide +kernel) rfl⟩
theorem fX2_104 : jm_fl RX2 104 8 0 := ⟨(RX8, TX8, 13), rfl, by decide, uX8, jm_tw (n := 167) (by decide +kernel) rfl⟩
theorem fX2_110 : jm_fl RX2 110 1 3 := ⟨(RX1, TX1, 10), rfl, by decide, uX1, jm_tw (n := 251) (by decide +kernel) rfl⟩
theorem fX2_113 : jm_fl RX2 113 1 1 := ⟨(RX1, TX1, 10), rfl, by decide, uX1, jm_tw (n := 242) (by decide +kernel) rfl⟩
theorem fX2_116 : jm_fl RX2 116 6 0 := ⟨(RX6, TX6, 8), rfl, by decide, uX6, jm_tw (n := 134) (by decide +kernel) rfl⟩
theorem fX2_121 : jm_fl RX2 121 6 1 := ⟨(RX6, TX6, 8), rfl, by decide, uX6, jm_tw (n := 137) (by decide +kernel) rfl⟩
theorem fX2_127 : jm_fl RX2 127 6 2 := ⟨(RX6, TX6, 8), rfl, by decide, uX6, jm_tw (n := 139) (by decide +kernel) rfl⟩
theorem fX2_133 : jm_fl RX2 133 6 3 := ⟨(RX6, TX6, 8), rfl, by decide, uX6, jm_tw (n := 141) (by decide +kernel) rfl⟩
theorem fX2_136 : jm_fl RX2 136 6 4 := ⟨(RX6, TX6, 8), rfl, by decide, uX6, jm_tw (n := 143) (by decide +kernel) rfl⟩
theorem fX3_9 : jm_fl RX3 9 3 0 := ⟨(RX3, TX3, 8), rfl, by decide, uX3, jm_tw (n := 101) (by decide +kernel) rfl⟩
theorem fX3_15 : jm_fl RX3 15 3 1 := ⟨(RX3, TX3, 8), rfl, by decide, uX3, jm_tw (n := 103) (by decide +kernel) rfl⟩
theorem fX3_18 : jm_fl RX3 18 3 2 := ⟨(RX3, TX3, 8), rfl, by decide, uX3, jm_tw (n := 104) (by decide +kernel) rfl⟩
theorem fX3_22 : jm_fl RX3 22 3 3 := ⟨(RX3, TX3, 8), rfl, by decide, uX3, jm_tw (n := 105) (by decide +kernel) rfl⟩
theorem fX3_25 : jm_fl RX3 25 3 4 := ⟨(RX3, TX3, 8), rfl, by decide, uX3, jm_tw (n := 106) (by decide +kernel) rfl⟩
theorem fX3_28 : jm_fl RX3 28 3 5 := ⟨(RX3, TX3, 8), rfl, by decide, uX3, jm_tw (n := 107) (by decide +kernel) rfl⟩
theorem fX3_31 : jm_fl RX3 31 3 6 := ⟨(RX3, TX3, 8), rfl, by decide, uX3, jm_tw (n := 108) (by decide +kernel) rfl⟩
theorem fX3_34 : jm_fl RX3 34 3 7 := ⟨(RX3, TX3, 8), rfl, by decide, uX3, jm_tw (n := 109) (by decide +kernel) rfl⟩
theorem fX4_17 : jm_fl RX4 17 4 0 := ⟨(RX4, TX4, 2), rfl, by decide, uX4, jm_tw (n := 388) (by decide +kernel) rfl⟩
theorem fX4_21 : jm_fl RX4 21 4 1 := ⟨(RX4, TX4, 2), rfl, by decide, uX4, jm_tw (n := 389) (by decide +kernel) rfl⟩
theorem fX5_11 : jm_fl RX5 11 5 0 := ⟨(RX5, TX5, 3), rfl, by decide, uX5, jm_tw (n := 80) (by decide +kernel) rfl⟩
theorem fX5_17 : jm_fl RX5 17 5 1 := ⟨(RX5, TX5, 3), rfl, by decide, uX5, jm_tw (n := 82) (by decide +kernel) rfl⟩
theorem fX5_21 : jm_fl RX5 21 5 2 := ⟨(RX5, TX5, 3), rfl, by decide, uX5, jm_tw (n := 87) (by decide +kernel) rfl⟩
theorem fX6_11 : jm_fl RX6 11 6 0 := ⟨(RX6, TX6, 8), rfl, by decide, uX6, jm_tw (n := 133) (by decide +kernel) rfl⟩
theorem fX6_17 : jm_fl RX6 17 6 1 := ⟨(RX6, TX6, 8), rfl, by decide, uX6, jm_tw (n := 136) (by decide +kernel) rfl⟩
theorem fX6_21 : jm_fl RX6 21 6 2 := ⟨(RX6, TX6, 8), rfl, by decide, uX6, jm_tw (n := 138) (by decide +kernel) rfl⟩
theorem fX6_24 : jm_fl RX6 24 6 3 := ⟨(RX6, TX6, 8), rfl, by decide, uX6, jm_tw (n := 140) (by decide +kernel) rfl⟩
theorem fX6_27 : jm_fl RX6 27 6 4 := ⟨(RX6, TX6, 8), rfl, by decide, uX6, jm_tw (n := 142) (by decide +kernel) rfl⟩
theorem fX6_30 : jm_fl RX6 30 6 5 := ⟨(RX6, TX6, 8), rfl, by decide, uX6, jm_tw (n := 144) (by decide +kernel) rfl⟩
theorem fX6_33 : jm_fl RX6 33 6 6 := ⟨(RX6, TX6, 8), rfl, by decide, uX6, jm_tw (n := 145) (by decide +kernel) rfl⟩
theorem fX6_36 : jm_fl RX6 36 6 7 := ⟨(RX6, TX6, 8), rfl, by decide, uX6, jm_tw (n := 146) (by decide +kernel) rfl⟩
theorem fX7_11 : jm_fl RX7 11 7 0 := ⟨(RX7, TX7, 9), rfl, by decide, uX7, jm_tw (n := 36) (by decide +kernel) rfl⟩
theorem fX7_15 : jm_fl RX7 15 7 1 := ⟨(RX7, TX7, 9), rfl, by decide, uX7, jm_tw (n := 37) (by decide +kernel) rfl⟩
theorem fX7_19 : jm_fl RX7 19 7 2 := ⟨(RX7, TX7, 9), rfl, by decide, uX7, jm_tw (n := 39) (by decide +kernel) rfl⟩
theorem fX7_22 : jm_fl RX7 22 7 3 := ⟨(RX7, TX7, 9), rfl, by decide, uX7, jm_tw (n := 41) (by decide +kernel) rfl⟩
theorem fX7_25 : jm_fl RX7 25 7 4 := ⟨(RX7, TX7, 9), rfl, by decide, uX7, jm_tw (n := 43) (by decide +kernel) rfl⟩
theorem fX7_28 : jm_fl RX7 28 7 5 := ⟨(RX7, TX7, 9), rfl, by decide, uX7, jm_tw (n := 44) (by decide +kernel) rfl⟩
theorem fX7_31 : jm_fl RX7 31 7 6 := ⟨(RX7, TX7, 9), rfl, by decide, uX7, jm_tw (n := 45) (by decide +kernel) rfl⟩
theorem fX7_34 : jm_fl RX7 34 7 7 := ⟨(RX7, TX7, 9), rfl, by decide, uX7, jm_tw (n := 46) (by decide +kernel) rfl⟩
theorem fX7_37 : jm_fl RX7 37 7 8 := ⟨(RX7, TX7, 9), rfl, by decide, uX7, jm_tw (n := 47) (by decide +kernel) rfl⟩
theorem fX8_9 : jm_fl RX8 9 8 0 := ⟨(RX8, TX8, 13), rfl, by decide, uX8, jm_tw (n := 164) (by decide +kernel) rfl⟩
theorem fX8_15 : jm_fl RX8 15 8 1 := ⟨(RX8, TX8, 13), rfl, by decide, uX8, jm_tw (n := 168) (by decide +kernel) rfl⟩
theorem fX8_19 : jm_fl RX8 19 8 2 := ⟨(RX8, TX8, 13), rfl, by decide, uX8, jm_tw (n := 172) (by decide +kernel) rfl⟩
theorem fX8_22 : jm_fl RX8 22 8 3 := ⟨(RX8, TX8, 13), rfl, by decide, uX8, jm_tw (n := 176) (by decide +kernel) rfl⟩
theorem fX8_25 : jm_fl RX8 25 8 4 := ⟨(RX8, TX8, 13), rfl, by decide, uX8, jm_tw (n := 180) (by decide +kernel) rfl⟩
theorem fX8_28 : jm_fl RX8 28 8 5 := ⟨(RX8, TX8, 13), rfl, by decide, uX8, jm_tw (n := 182) (by decide +kernel) rfl⟩
theorem fX8_31 : jm_fl RX8 31 8 6 := ⟨(RX8, TX8, 13), rfl, by decide, uX8, jm_tw (n := 184) (by decide +kernel) rfl⟩
theorem fX8_34 : jm_fl RX8 34 8 7 := ⟨(RX8, TX8, 13), rfl, by decide, uX8, jm_tw (n := 187) (by decide +kernel) rfl⟩
theorem fX8_37 : jm_fl RX8 37 8 8 := ⟨(RX8, TX8, 13), rfl, by decide, uX8, jm_tw (n := 190) (by decide +kernel) rfl⟩
theorem fX8_40 : jm_fl RX8 40 8 9 := ⟨(RX8, TX8, 13), rfl, by decide, uX8, jm_tw (n := 193) (by decide +kernel) rfl⟩
theorem fX8_46 : jm_fl RX8 46 8 10 := ⟨(RX8, TX8, 13), rfl, by decide, uX8, jm_tw (n := 196) (by decide +kernel) rfl⟩
theorem fX8_53 : jm_fl RX8 53 8 11 := ⟨(RX8, TX8, 13), rfl, by decide, uX8, jm_tw (n := 201) (by decide +kernel) rfl⟩
theorem fX8_60 : jm_fl RX8 60 8 12 := ⟨(RX8, TX8, 13), rfl, by decide, uX8, jm_tw (n := 204) (by decide +kernel) rfl⟩
theorem fX9_9 : jm_fl RX9 9 9 3 := ⟨(RX9, TX9, 7), rfl, by decide, uX9, jm_tw (n := 357) (by decide +kernel) rfl⟩
theorem fX9_15 : jm_fl RX9 15 9 4 := ⟨(RX9, TX9, 7), rfl, by decide, uX9, jm_tw (n := 358) (by decide +kernel) rfl⟩
theorem fX9_18 : jm_fl RX9 18 9 5 := ⟨(RX9, TX9, 7), rfl, by decide, uX9, jm_tw (n := 359) (by decide +kernel) rfl⟩
theorem fX9_21 : jm_fl RX9 21 9 6 := ⟨(RX9, TX9, 7), rfl, by decide, uX9, jm_tw (n := 360) (by decide +kernel) rfl⟩
theorem fX9_24 : jm_fl RX9 24 9 0 := ⟨(RX9, TX9, 7), rfl, by decide, uX9, jm_tw (n := 354) (by decide +kernel) rfl⟩
theorem fX9_34 : jm_fl RX9 34 9 1 := ⟨(RX9, TX9, 7), rfl, by decide, uX9, jm_tw (n := 355) (by decide +kernel) rfl⟩
theorem fX9_39 : jm_fl RX9 39 9 2 := ⟨(RX9, TX9, 7), rfl, by decide, uX9, jm_tw (n := 356) (by decide +kernel) rfl⟩
theorem fX9_44 : jm_fl RX9 44 1 4 := ⟨(RX1, TX1, 10), rfl, by decide, uX1, jm_tw (n := 254) (by decide +kernel) rfl⟩
theorem fX9_54 : jm_fl RX9 54 8 7 := ⟨(RX8, TX8, 13), rfl, by decide, uX8, jm_tw (n := 188) (by decide +kernel) rfl⟩
theorem fX9_66 : jm_fl RX9 66 8 6 := ⟨(RX8, TX8, 13), rfl, by decide, uX8, jm_tw (n := 185) (by decide +kernel) rfl⟩
theorem fX9_77 : jm_fl RX9 77 8 0 := ⟨(RX8, TX8, 13), rfl, by decide, uX8, jm_tw (n := 166) (by decide +kernel) rfl⟩
theorem kX1_49 : Cond.constant RX1 49 1664525 ∈ jm_T := jm_tw (n := 848) (by decide +kernel) rfl
theorem kX1_50 : Cond.constant RX1 50 1013904223 ∈ jm_T := jm_tw (n := 849) (by decide +kernel) rfl
theorem kX10_35 : Cond.constant RX10 35 1000000 ∈ jm_T := jm_tw (n := 1004) (by decide +kernel) rfl
theorem kX12_110 : Cond.constant RX12 110 1664525 ∈ jm_T := jm_tw (n := 1686) (by decide +kernel) rfl
theorem kX12_111 : Cond.constant RX12 111 1013904223 ∈ jm_T := jm_tw (n := 1687) (by decide +kernel) rfl
theorem kX12_422 : Cond.constant RX12 422 1000000 ∈ jm_T := jm_tw (n := 1816) (by decide +kernel) rfl
theorem kX12_423 : Cond.constantLong RX12 423 1000 ∈ jm_T := jm_tw (n := 1817) (by decide +kernel) rfl
theorem kJ13_314 : Cond.constantLong RJ13 314 6148914691236517205 ∈ jm_T := jm_tw (n := 1209) (by decide +kernel) rfl
theorem kJ13_316 : Cond.constantLong RJ13 316 3689348814741910323 ∈ jm_T := jm_tw (n := 1210) (by decide +kernel) rfl
theorem kJ13_318 : Cond.constantLong RJ13 318 1085102592571150095 ∈ jm_T := jm_tw (n := 1211) (by decide +kernel) rfl
theorem kJ6_265 : Cond.constant RJ6 265 1431655765 ∈ jm_T := jm_tw (n := 1130) (by decide +kernel) rfl
theorem kJ6_266 : Cond.constant RJ6 266 858993459 ∈ jm_T := jm_tw (n := 1131) (by decide +kernel) rfl
theorem kJ6_267 : Cond.constant RJ6 267 252645135 ∈ jm_T := jm_tw (n := 1132) (by decide +kernel) rfl
end JW
end
