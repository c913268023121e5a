-- ===== PART A: goes FIRST, ahead of the names: the tables' words, and 'selects' of the private methods out of them =====
/-- a private method of a class that the tables say can be made, by its rows of tables_1 -/
def lw_okq (q : MethodName × Nat) : Prop := (q.1.cls ≠ "java/lang/invoke/MethodHandle" ∧ q.1.cls ≠ "java/lang/invoke/VarHandle") ∧ Cond.instantiable q.1.cls q.2 ∈ tables_1 ∧ Cond.privateMethod q.1 ∈ tables_1 ∧ Cond.instanceMethod q.1 ∈ tables_1
theorem lw_p0 : lw_okq (⟨"JudgedDeposits", "tell", "(I)I"⟩, 9) := ⟨⟨by decide +kernel, by decide +kernel⟩, List.mem_of_getElem? (i := 16) (by decide +kernel), List.mem_of_getElem? (i := 163) (by decide +kernel), List.mem_of_getElem? (i := 164) (by decide +kernel)⟩
theorem lw_p1 : lw_okq (⟨"JudgedDeposits", "isThing", "(I)Z"⟩, 9) := ⟨⟨by decide +kernel, by decide +kernel⟩, List.mem_of_getElem? (i := 16) (by decide +kernel), List.mem_of_getElem? (i := 210) (by decide +kernel), List.mem_of_getElem? (i := 211) (by decide +kernel)⟩
theorem lw_p2 : lw_okq (⟨"JudgedDeposits$Estate", "lower", "(II)V"⟩, 7) := ⟨⟨by decide +kernel, by decide +kernel⟩, List.mem_of_getElem? (i := 24) (by decide +kernel), List.mem_of_getElem? (i := 301) (by decide +kernel), List.mem_of_getElem? (i := 302) (by decide +kernel)⟩
theorem lw_p3 : lw_okq (⟨"JudgedDeposits", "awardedBehind", "(I)I"⟩, 9) := ⟨⟨by decide +kernel, by decide +kernel⟩, List.mem_of_getElem? (i := 16) (by decide +kernel), List.mem_of_getElem? (i := 347) (by decide +kernel), List.mem_of_getElem? (i := 348) (by decide +kernel)⟩
theorem lw_p4 : lw_okq (⟨"JudgedDeposits", "leftWithout", "(I)I"⟩, 9) := ⟨⟨by decide +kernel, by decide +kernel⟩, List.mem_of_getElem? (i := 16) (by decide +kernel), List.mem_of_getElem? (i := 392) (by decide +kernel), List.mem_of_getElem? (i := 393) (by decide +kernel)⟩
theorem lw_p5 : lw_okq (⟨"JudgedDeposits", "lackFor", "(II)I"⟩, 9) := ⟨⟨by decide +kernel, by decide +kernel⟩, List.mem_of_getElem? (i := 16) (by decide +kernel), List.mem_of_getElem? (i := 401) (by decide +kernel), List.mem_of_getElem? (i := 402) (by decide +kernel)⟩
theorem lw_p6 : lw_okq (⟨"JudgedDeposits", "lackOf", "(I)I"⟩, 9) := ⟨⟨by decide +kernel, by decide +kernel⟩, List.mem_of_getElem? (i := 16) (by decide +kernel), List.mem_of_getElem? (i := 405) (by decide +kernel), List.mem_of_getElem? (i := 406) (by decide +kernel)⟩
theorem lw_p7 : lw_okq (⟨"JudgedDeposits", "foreseeWorses", "(I)V"⟩, 9) := ⟨⟨by decide +kernel, by decide +kernel⟩, List.mem_of_getElem? (i := 16) (by decide +kernel), List.mem_of_getElem? (i := 412) (by decide +kernel), List.mem_of_getElem? (i := 413) (by decide +kernel)⟩
theorem lw_p8 : lw_okq (⟨"JudgedDeposits", "ageFits", "(LJudgedDeposits$Sheet;II)Z"⟩, 9) := ⟨⟨by decide +kernel, by decide +kernel⟩, List.mem_of_getElem? (i := 16) (by decide +kernel), List.mem_of_getElem? (i := 417) (by decide +kernel), List.mem_of_getElem? (i := 418) (by decide +kernel)⟩
theorem lw_p9 : lw_okq (⟨"JudgedDeposits", "kindFits", "(LJudgedDeposits$Sheet;II)Z"⟩, 9) := ⟨⟨by decide +kernel, by decide +kernel⟩, List.mem_of_getElem? (i := 16) (by decide +kernel), List.mem_of_getElem? (i := 428) (by decide +kernel), List.mem_of_getElem? (i := 429) (by decide +kernel)⟩
theorem lw_p10 : lw_okq (⟨"JudgedDeposits$Tape", "nextToken", "()V"⟩, 7) := ⟨⟨by decide +kernel, by decide +kernel⟩, List.mem_of_getElem? (i := 74) (by decide +kernel), List.mem_of_getElem? (i := 475) (by decide +kernel), List.mem_of_getElem? (i := 476) (by decide +kernel)⟩
theorem lw_p11 : lw_okq (⟨"JudgedDeposits$Tape", "readItem", "(LJudgedDeposits$Estate;)Z"⟩, 7) := ⟨⟨by decide +kernel, by decide +kernel⟩, List.mem_of_getElem? (i := 74) (by decide +kernel), List.mem_of_getElem? (i := 483) (by decide +kernel), List.mem_of_getElem? (i := 484) (by decide +kernel)⟩
theorem lw_p12 : lw_okq (⟨"JudgedDeposits$Tape", "wordIs", "(Ljava/lang/String;)Z"⟩, 7) := ⟨⟨by decide +kernel, by decide +kernel⟩, List.mem_of_getElem? (i := 74) (by decide +kernel), List.mem_of_getElem? (i := 497) (by decide +kernel), List.mem_of_getElem? (i := 498) (by decide +kernel)⟩
theorem lw_p13 : lw_okq (⟨"JudgedDeposits$Tape", "readThing", "(LJudgedDeposits$Estate;I)Z"⟩, 7) := ⟨⟨by decide +kernel, by decide +kernel⟩, List.mem_of_getElem? (i := 74) (by decide +kernel), List.mem_of_getElem? (i := 549) (by decide +kernel), List.mem_of_getElem? (i := 550) (by decide +kernel)⟩
theorem lw_p14 : lw_okq (⟨"JudgedDeposits$Tape", "takeNumber", "(II)Z"⟩, 7) := ⟨⟨by decide +kernel, by decide +kernel⟩, List.mem_of_getElem? (i := 74) (by decide +kernel), List.mem_of_getElem? (i := 554) (by decide +kernel), List.mem_of_getElem? (i := 555) (by decide +kernel)⟩
theorem lw_p15 : lw_okq (⟨"JudgedDeposits$Tape", "takeWord", "(Ljava/lang/String;)Z"⟩, 7) := ⟨⟨by decide +kernel, by decide +kernel⟩, List.mem_of_getElem? (i := 74) (by decide +kernel), List.mem_of_getElem? (i := 567) (by decide +kernel), List.mem_of_getElem? (i := 568) (by decide +kernel)⟩
def lw_privs_1 : List (MethodName × Nat) := [(⟨"JudgedDeposits", "tell", "(I)I"⟩, 9), (⟨"JudgedDeposits", "isThing", "(I)Z"⟩, 9), (⟨"JudgedDeposits$Estate", "lower", "(II)V"⟩, 7), (⟨"JudgedDeposits", "awardedBehind", "(I)I"⟩, 9), (⟨"JudgedDeposits", "leftWithout", "(I)I"⟩, 9), (⟨"JudgedDeposits", "lackFor", "(II)I"⟩, 9), (⟨"JudgedDeposits", "lackOf", "(I)I"⟩, 9), (⟨"JudgedDeposits", "foreseeWorses", "(I)V"⟩, 9), (⟨"JudgedDeposits", "ageFits", "(LJudgedDeposits$Sheet;II)Z"⟩, 9), (⟨"JudgedDeposits", "kindFits", "(LJudgedDeposits$Sheet;II)Z"⟩, 9), (⟨"JudgedDeposits$Tape", "nextToken", "()V"⟩, 7), (⟨"JudgedDeposits$Tape", "readItem", "(LJudgedDeposits$Estate;)Z"⟩, 7), (⟨"JudgedDeposits$Tape", "wordIs", "(Ljava/lang/String;)Z"⟩, 7), (⟨"JudgedDeposits$Tape", "readThing", "(LJudgedDeposits$Estate;I)Z"⟩, 7), (⟨"JudgedDeposits$Tape", "takeNumber", "(II)Z"⟩, 7), (⟨"JudgedDeposits$Tape", "takeWord", "(Ljava/lang/String;)Z"⟩, 7)]
theorem lw_r1 : ∀ q ∈ lw_privs_1, lw_okq q := List.forall_mem_cons.mpr ⟨lw_p0, List.forall_mem_cons.mpr ⟨lw_p1, List.forall_mem_cons.mpr ⟨lw_p2, List.forall_mem_cons.mpr ⟨lw_p3, List.forall_mem_cons.mpr ⟨lw_p4, List.forall_mem_cons.mpr ⟨lw_p5, List.forall_mem_cons.mpr ⟨lw_p6, List.forall_mem_cons.mpr ⟨lw_p7, List.forall_mem_cons.mpr ⟨lw_p8, List.forall_mem_cons.mpr ⟨lw_p9, List.forall_mem_cons.mpr ⟨lw_p10, List.forall_mem_cons.mpr ⟨lw_p11, List.forall_mem_cons.mpr ⟨lw_p12, List.forall_mem_cons.mpr ⟨lw_p13, List.forall_mem_cons.mpr ⟨lw_p14, List.forall_mem_cons.mpr ⟨lw_p15, fun _ h => absurd h List.not_mem_nil⟩⟩⟩⟩⟩⟩⟩⟩⟩⟩⟩⟩⟩⟩⟩⟩
theorem lw_p16 : lw_okq (⟨"JudgedDeposits$Tape", "takeHome", "(LJudgedDeposits$Estate;I)Z"⟩, 7) := ⟨⟨by decide +kernel, by decide +kernel⟩, List.mem_of_getElem? (i := 74) (by decide +kernel), List.mem_of_getElem? (i := 573) (by decide +kernel), List.mem_of_getElem? (i := 574) (by decide +kernel)⟩
theorem lw_p17 : lw_okq (⟨"JudgedDeposits$Tape", "readBlow", "(LJudgedDeposits$Estate;)Z"⟩, 7) := ⟨⟨by decide +kernel, by decide +kernel⟩, List.mem_of_getElem? (i := 74) (by decide +kernel), List.mem_of_getElem? (i := 582) (by decide +kernel), List.mem_of_getElem? (i := 583) (by decide +kernel)⟩
theorem lw_p18 : lw_okq (⟨"JudgedDepositsModel", "becomes", "(II)I"⟩, 15) := ⟨⟨by decide +kernel, by decide +kernel⟩, List.mem_of_getElem? (i := 663) (by decide +kernel), List.mem_of_getElem? (i := 725) (by decide +kernel), List.mem_of_getElem? (i := 726) (by decide +kernel)⟩
theorem lw_p19 : lw_okq (⟨"JudgedDepositsModel", "finds", "(I)I"⟩, 15) := ⟨⟨by decide +kernel, by decide +kernel⟩, List.mem_of_getElem? (i := 663) (by decide +kernel), List.mem_of_getElem? (i := 730) (by decide +kernel), List.mem_of_getElem? (i := 731) (by decide +kernel)⟩
theorem lw_p20 : lw_okq (⟨"JudgedDepositsModel", "comes", "(II)I"⟩, 15) := ⟨⟨by decide +kernel, by decide +kernel⟩, List.mem_of_getElem? (i := 663) (by decide +kernel), List.mem_of_getElem? (i := 754) (by decide +kernel), List.mem_of_getElem? (i := 755) (by decide +kernel)⟩
theorem lw_p21 : lw_okq (⟨"JudgedDepositsModel", "put", "(III)V"⟩, 15) := ⟨⟨by decide +kernel, by decide +kernel⟩, List.mem_of_getElem? (i := 663) (by decide +kernel), List.mem_of_getElem? (i := 758) (by decide +kernel), List.mem_of_getElem? (i := 759) (by decide +kernel)⟩
theorem lw_p22 : lw_okq (⟨"JudgedDepositsModel", "isThing", "(I)Z"⟩, 15) := ⟨⟨by decide +kernel, by decide +kernel⟩, List.mem_of_getElem? (i := 663) (by decide +kernel), List.mem_of_getElem? (i := 766) (by decide +kernel), List.mem_of_getElem? (i := 767) (by decide +kernel)⟩
theorem lw_p23 : lw_okq (⟨"JudgedDepositsModel", "lives", "(I)I"⟩, 15) := ⟨⟨by decide +kernel, by decide +kernel⟩, List.mem_of_getElem? (i := 663) (by decide +kernel), List.mem_of_getElem? (i := 770) (by decide +kernel), List.mem_of_getElem? (i := 771) (by decide +kernel)⟩
theorem lw_p24 : lw_okq (⟨"JudgedDepositsModel", "it", "(II)I"⟩, 15) := ⟨⟨by decide +kernel, by decide +kernel⟩, List.mem_of_getElem? (i := 663) (by decide +kernel), List.mem_of_getElem? (i := 774) (by decide +kernel), List.mem_of_getElem? (i := 775) (by decide +kernel)⟩
theorem lw_p25 : lw_okq (⟨"JudgedDepositsModel", "worth", "(I)I"⟩, 15) := ⟨⟨by decide +kernel, by decide +kernel⟩, List.mem_of_getElem? (i := 663) (by decide +kernel), List.mem_of_getElem? (i := 778) (by decide +kernel), List.mem_of_getElem? (i := 779) (by decide +kernel)⟩
theorem lw_p26 : lw_okq (⟨"JudgedDepositsModel", "fair", "(I)I"⟩, 15) := ⟨⟨by decide +kernel, by decide +kernel⟩, List.mem_of_getElem? (i := 663) (by decide +kernel), List.mem_of_getElem? (i := 785) (by decide +kernel), List.mem_of_getElem? (i := 786) (by decide +kernel)⟩
theorem lw_p27 : lw_okq (⟨"JudgedDepositsModel", "worse", "(I)I"⟩, 15) := ⟨⟨by decide +kernel, by decide +kernel⟩, List.mem_of_getElem? (i := 663) (by decide +kernel), List.mem_of_getElem? (i := 789) (by decide +kernel), List.mem_of_getElem? (i := 790) (by decide +kernel)⟩
theorem lw_p28 : lw_okq (⟨"JudgedDepositsModel", "award", "(I)I"⟩, 15) := ⟨⟨by decide +kernel, by decide +kernel⟩, List.mem_of_getElem? (i := 663) (by decide +kernel), List.mem_of_getElem? (i := 793) (by decide +kernel), List.mem_of_getElem? (i := 794) (by decide +kernel)⟩
theorem lw_p29 : lw_okq (⟨"JudgedDepositsModel", "hurtsBy", "(II)I"⟩, 15) := ⟨⟨by decide +kernel, by decide +kernel⟩, List.mem_of_getElem? (i := 663) (by decide +kernel), List.mem_of_getElem? (i := 808) (by decide +kernel), List.mem_of_getElem? (i := 809) (by decide +kernel)⟩
theorem lw_p30 : lw_okq (⟨"JudgedDepositsModel", "goesFor", "(I)V"⟩, 15) := ⟨⟨by decide +kernel, by decide +kernel⟩, List.mem_of_getElem? (i := 663) (by decide +kernel), List.mem_of_getElem? (i := 818) (by decide +kernel), List.mem_of_getElem? (i := 819) (by decide +kernel)⟩
theorem lw_p31 : lw_okq (⟨"JudgedDepositsModel", "goes", "()V"⟩, 15) := ⟨⟨by decide +kernel, by decide +kernel⟩, List.mem_of_getElem? (i := 663) (by decide +kernel), List.mem_of_getElem? (i := 822) (by decide +kernel), List.mem_of_getElem? (i := 823) (by decide +kernel)⟩
def lw_privs_2 : List (MethodName × Nat) := [(⟨"JudgedDeposits$Tape", "takeHome", "(LJudgedDeposits$Estate;I)Z"⟩, 7), (⟨"JudgedDeposits$Tape", "readBlow", "(LJudgedDeposits$Estate;)Z"⟩, 7), (⟨"JudgedDepositsModel", "becomes", "(II)I"⟩, 15), (⟨"JudgedDepositsModel", "finds", "(I)I"⟩, 15), (⟨"JudgedDepositsModel", "comes", "(II)I"⟩, 15), (⟨"JudgedDepositsModel", "put", "(III)V"⟩, 15), (⟨"JudgedDepositsModel", "isThing", "(I)Z"⟩, 15), (⟨"JudgedDepositsModel", "lives", "(I)I"⟩, 15), (⟨"JudgedDepositsModel", "it", "(II)I"⟩, 15), (⟨"JudgedDepositsModel", "worth", "(I)I"⟩, 15), (⟨"JudgedDepositsModel", "fair", "(I)I"⟩, 15), (⟨"JudgedDepositsModel", "worse", "(I)I"⟩, 15), (⟨"JudgedDepositsModel", "award", "(I)I"⟩, 15), (⟨"JudgedDepositsModel", "hurtsBy", "(II)I"⟩, 15), (⟨"JudgedDepositsModel", "goesFor", "(I)V"⟩, 15), (⟨"JudgedDepositsModel", "goes", "()V"⟩, 15)]
theorem lw_r2 : ∀ q ∈ lw_privs_2, lw_okq q := List.forall_mem_cons.mpr ⟨lw_p16, List.forall_mem_cons.mpr ⟨lw_p17, List.forall_mem_cons.mpr ⟨lw_p18, List.forall_mem_cons.mpr ⟨lw_p19, List.forall_mem_cons.mpr ⟨lw_p20, List.forall_mem_cons.mpr ⟨lw_p21, List.forall_mem_cons.mpr ⟨lw_p22, List.forall_mem_cons.mpr ⟨lw_p23, List.forall_mem_cons.mpr ⟨lw_p24, List.forall_mem_cons.mpr ⟨lw_p25, List.forall_mem_cons.mpr ⟨lw_p26, List.forall_mem_cons.mpr ⟨lw_p27, List.forall_mem_cons.mpr ⟨lw_p28, List.forall_mem_cons.mpr ⟨lw_p29, List.forall_mem_cons.mpr ⟨lw_p30, List.forall_mem_cons.mpr ⟨lw_p31, fun _ h => absurd h List.not_mem_nil⟩⟩⟩⟩⟩⟩⟩⟩⟩⟩⟩⟩⟩⟩⟩⟩
theorem lw_p32 : lw_okq (⟨"JudgedDepositsModel", "awarded", "()I"⟩, 15) := ⟨⟨by decide +kernel, by decide +kernel⟩, List.mem_of_getElem? (i := 663) (by decide +kernel), List.mem_of_getElem? (i := 826) (by decide +kernel), List.mem_of_getElem? (i := 827) (by decide +kernel)⟩
theorem lw_p33 : lw_okq (⟨"JudgedDepositsModel", "doMeet", "()Z"⟩, 15) := ⟨⟨by decide +kernel, by decide +kernel⟩, List.mem_of_getElem? (i := 663) (by decide +kernel), List.mem_of_getElem? (i := 830) (by decide +kernel), List.mem_of_getElem? (i := 831) (by decide +kernel)⟩
theorem lw_p34 : lw_okq (⟨"JudgedDepositsModel", "claims", "()I"⟩, 15) := ⟨⟨by decide +kernel, by decide +kernel⟩, List.mem_of_getElem? (i := 663) (by decide +kernel), List.mem_of_getElem? (i := 838) (by decide +kernel), List.mem_of_getElem? (i := 839) (by decide +kernel)⟩
theorem lw_p35 : lw_okq (⟨"JudgedDepositsModel", "worseOnes", "()I"⟩, 15) := ⟨⟨by decide +kernel, by decide +kernel⟩, List.mem_of_getElem? (i := 663) (by decide +kernel), List.mem_of_getElem? (i := 842) (by decide +kernel), List.mem_of_getElem? (i := 843) (by decide +kernel)⟩
theorem lw_p36 : lw_okq (⟨"JudgedDepositsModel", "awardedOnes", "()I"⟩, 15) := ⟨⟨by decide +kernel, by decide +kernel⟩, List.mem_of_getElem? (i := 663) (by decide +kernel), List.mem_of_getElem? (i := 846) (by decide +kernel), List.mem_of_getElem? (i := 847) (by decide +kernel)⟩
theorem lw_p37 : lw_okq (⟨"JudgedDepositsModel", "allWorth", "()I"⟩, 15) := ⟨⟨by decide +kernel, by decide +kernel⟩, List.mem_of_getElem? (i := 663) (by decide +kernel), List.mem_of_getElem? (i := 850) (by decide +kernel), List.mem_of_getElem? (i := 851) (by decide +kernel)⟩
theorem lw_p38 : lw_okq (⟨"JudgedDepositsModel", "thinks", "()V"⟩, 15) := ⟨⟨by decide +kernel, by decide +kernel⟩, List.mem_of_getElem? (i := 663) (by decide +kernel), List.mem_of_getElem? (i := 858) (by decide +kernel), List.mem_of_getElem? (i := 859) (by decide +kernel)⟩
theorem lw_p39 : lw_okq (⟨"JudgedDepositsModel", "putsBack", "()V"⟩, 15) := ⟨⟨by decide +kernel, by decide +kernel⟩, List.mem_of_getElem? (i := 663) (by decide +kernel), List.mem_of_getElem? (i := 866) (by decide +kernel), List.mem_of_getElem? (i := 867) (by decide +kernel)⟩
theorem lw_p40 : lw_okq (⟨"JudgedDepositsModel", "awardedOn", "(I)I"⟩, 15) := ⟨⟨by decide +kernel, by decide +kernel⟩, List.mem_of_getElem? (i := 663) (by decide +kernel), List.mem_of_getElem? (i := 874) (by decide +kernel), List.mem_of_getElem? (i := 875) (by decide +kernel)⟩
theorem lw_p41 : lw_okq (⟨"JudgedDepositsModel", "leastBy", "(IIII)I"⟩, 15) := ⟨⟨by decide +kernel, by decide +kernel⟩, List.mem_of_getElem? (i := 663) (by decide +kernel), List.mem_of_getElem? (i := 899) (by decide +kernel), List.mem_of_getElem? (i := 900) (by decide +kernel)⟩
theorem lw_p42 : lw_okq (⟨"JudgedDepositsModel", "orNone", "(I)I"⟩, 15) := ⟨⟨by decide +kernel, by decide +kernel⟩, List.mem_of_getElem? (i := 663) (by decide +kernel), List.mem_of_getElem? (i := 911) (by decide +kernel), List.mem_of_getElem? (i := 912) (by decide +kernel)⟩
theorem lw_p43 : lw_okq (⟨"JudgedDepositsModel", "isLeft", "(III)Z"⟩, 15) := ⟨⟨by decide +kernel, by decide +kernel⟩, List.mem_of_getElem? (i := 663) (by decide +kernel), List.mem_of_getElem? (i := 922) (by decide +kernel), List.mem_of_getElem? (i := 923) (by decide +kernel)⟩
theorem lw_p44 : lw_okq (⟨"JudgedDepositsModel", "notAsked", "(II)I"⟩, 15) := ⟨⟨by decide +kernel, by decide +kernel⟩, List.mem_of_getElem? (i := 663) (by decide +kernel), List.mem_of_getElem? (i := 930) (by decide +kernel), List.mem_of_getElem? (i := 931) (by decide +kernel)⟩
theorem lw_p45 : lw_okq (⟨"JudgedDepositsModel", "notThere", "(I)I"⟩, 15) := ⟨⟨by decide +kernel, by decide +kernel⟩, List.mem_of_getElem? (i := 663) (by decide +kernel), List.mem_of_getElem? (i := 934) (by decide +kernel), List.mem_of_getElem? (i := 935) (by decide +kernel)⟩
theorem lw_p46 : lw_okq (⟨"JudgedDepositsModel", "isTold", "(II)Z"⟩, 15) := ⟨⟨by decide +kernel, by decide +kernel⟩, List.mem_of_getElem? (i := 663) (by decide +kernel), List.mem_of_getElem? (i := 942) (by decide +kernel), List.mem_of_getElem? (i := 943) (by decide +kernel)⟩
theorem lw_p47 : lw_okq (⟨"JudgedDepositsModel", "draw", "()I"⟩, 15) := ⟨⟨by decide +kernel, by decide +kernel⟩, List.mem_of_getElem? (i := 663) (by decide +kernel), List.mem_of_getElem? (i := 954) (by decide +kernel), List.mem_of_getElem? (i := 955) (by decide +kernel)⟩
def lw_privs_3 : List (MethodName × Nat) := [(⟨"JudgedDepositsModel", "awarded", "()I"⟩, 15), (⟨"JudgedDepositsModel", "doMeet", "()Z"⟩, 15), (⟨"JudgedDepositsModel", "claims", "()I"⟩, 15), (⟨"JudgedDepositsModel", "worseOnes", "()I"⟩, 15), (⟨"JudgedDepositsModel", "awardedOnes", "()I"⟩, 15), (⟨"JudgedDepositsModel", "allWorth", "()I"⟩, 15), (⟨"JudgedDepositsModel", "thinks", "()V"⟩, 15), (⟨"JudgedDepositsModel", "putsBack", "()V"⟩, 15), (⟨"JudgedDepositsModel", "awardedOn", "(I)I"⟩, 15), (⟨"JudgedDepositsModel", "leastBy", "(IIII)I"⟩, 15), (⟨"JudgedDepositsModel", "orNone", "(I)I"⟩, 15), (⟨"JudgedDepositsModel", "isLeft", "(III)Z"⟩, 15), (⟨"JudgedDepositsModel", "notAsked", "(II)I"⟩, 15), (⟨"JudgedDepositsModel", "notThere", "(I)I"⟩, 15), (⟨"JudgedDepositsModel", "isTold", "(II)Z"⟩, 15), (⟨"JudgedDepositsModel", "draw", "()I"⟩, 15)]
theorem lw_r3 : ∀ q ∈ lw_privs_3, lw_okq q := List.forall_mem_cons.mpr ⟨lw_p32, List.forall_mem_cons.mpr ⟨lw_p33, List.forall_mem_cons.mpr ⟨lw_p34, List.forall_mem_cons.mpr ⟨lw_p35, List.forall_mem_cons.mpr ⟨lw_p36, List.forall_mem_cons.mpr ⟨lw_p37, List.forall_mem_cons.mpr ⟨lw_p38, List.forall_mem_cons.mpr ⟨lw_p39, List.forall_mem_cons.mpr ⟨lw_p40, List.forall_mem_cons.mpr ⟨lw_p41, List.forall_mem_cons.mpr ⟨lw_p42, List.forall_mem_cons.mpr ⟨lw_p43, List.forall_mem_cons.mpr ⟨lw_p44, List.forall_mem_cons.mpr ⟨lw_p45, List.forall_mem_cons.mpr ⟨lw_p46, List.forall_mem_cons.mpr ⟨lw_p47, fun _ h => absurd h List.not_mem_nil⟩⟩⟩⟩⟩⟩⟩⟩⟩⟩⟩⟩⟩⟩⟩⟩
theorem lw_p48 : lw_okq (⟨"JudgedDepositsModel", "reads", "()V"⟩, 15) := ⟨⟨by decide +kernel, by decide +kernel⟩, List.mem_of_getElem? (i := 663) (by decide +kernel), List.mem_of_getElem? (i := 979) (by decide +kernel), List.mem_of_getElem? (i := 980) (by decide +kernel)⟩
theorem lw_p49 : lw_okq (⟨"JudgedDepositsModel", "isByte", "(III)Z"⟩, 15) := ⟨⟨by decide +kernel, by decide +kernel⟩, List.mem_of_getElem? (i := 663) (by decide +kernel), List.mem_of_getElem? (i := 983) (by decide +kernel), List.mem_of_getElem? (i := 984) (by decide +kernel)⟩
theorem lw_p50 : lw_okq (⟨"JudgedDepositsModel", "wordHere", "()I"⟩, 15) := ⟨⟨by decide +kernel, by decide +kernel⟩, List.mem_of_getElem? (i := 663) (by decide +kernel), List.mem_of_getElem? (i := 987) (by decide +kernel), List.mem_of_getElem? (i := 988) (by decide +kernel)⟩
theorem lw_p51 : lw_okq (⟨"JudgedDepositsModel", "isName", "(II)Z"⟩, 15) := ⟨⟨by decide +kernel, by decide +kernel⟩, List.mem_of_getElem? (i := 663) (by decide +kernel), List.mem_of_getElem? (i := 991) (by decide +kernel), List.mem_of_getElem? (i := 992) (by decide +kernel)⟩
theorem lw_p52 : lw_okq (⟨"JudgedDepositsModel", "item", "()V"⟩, 15) := ⟨⟨by decide +kernel, by decide +kernel⟩, List.mem_of_getElem? (i := 663) (by decide +kernel), List.mem_of_getElem? (i := 997) (by decide +kernel), List.mem_of_getElem? (i := 998) (by decide +kernel)⟩
theorem lw_p53 : lw_okq (⟨"JudgedDepositsModel", "thingItem", "()V"⟩, 15) := ⟨⟨by decide +kernel, by decide +kernel⟩, List.mem_of_getElem? (i := 663) (by decide +kernel), List.mem_of_getElem? (i := 1001) (by decide +kernel), List.mem_of_getElem? (i := 1002) (by decide +kernel)⟩
theorem lw_p54 : lw_okq (⟨"JudgedDepositsModel", "number", "(II)I"⟩, 15) := ⟨⟨by decide +kernel, by decide +kernel⟩, List.mem_of_getElem? (i := 663) (by decide +kernel), List.mem_of_getElem? (i := 1005) (by decide +kernel), List.mem_of_getElem? (i := 1006) (by decide +kernel)⟩
theorem lw_p55 : lw_okq (⟨"JudgedDepositsModel", "perhaps", "(IIII)I"⟩, 15) := ⟨⟨by decide +kernel, by decide +kernel⟩, List.mem_of_getElem? (i := 663) (by decide +kernel), List.mem_of_getElem? (i := 1009) (by decide +kernel), List.mem_of_getElem? (i := 1010) (by decide +kernel)⟩
theorem lw_p56 : lw_okq (⟨"JudgedDepositsModel", "takes", "(I)Z"⟩, 15) := ⟨⟨by decide +kernel, by decide +kernel⟩, List.mem_of_getElem? (i := 663) (by decide +kernel), List.mem_of_getElem? (i := 1013) (by decide +kernel), List.mem_of_getElem? (i := 1014) (by decide +kernel)⟩
theorem lw_p57 : lw_okq (⟨"JudgedDepositsModel", "twoItem", "(IIIII)V"⟩, 15) := ⟨⟨by decide +kernel, by decide +kernel⟩, List.mem_of_getElem? (i := 663) (by decide +kernel), List.mem_of_getElem? (i := 1017) (by decide +kernel), List.mem_of_getElem? (i := 1018) (by decide +kernel)⟩
theorem lw_p58 : lw_okq (⟨"JudgedDepositsModel", "blowItem", "()V"⟩, 15) := ⟨⟨by decide +kernel, by decide +kernel⟩, List.mem_of_getElem? (i := 663) (by decide +kernel), List.mem_of_getElem? (i := 1021) (by decide +kernel), List.mem_of_getElem? (i := 1022) (by decide +kernel)⟩
theorem lw_p59 : lw_okq (⟨"JudgedDepositsModel", "notCopied", "(IIIII)I"⟩, 15) := ⟨⟨by decide +kernel, by decide +kernel⟩, List.mem_of_getElem? (i := 663) (by decide +kernel), List.mem_of_getElem? (i := 1050) (by decide +kernel), List.mem_of_getElem? (i := 1051) (by decide +kernel)⟩
theorem lw_p60 : lw_okq (⟨"JudgedDepositsModel", "manyHeld", "()I"⟩, 15) := ⟨⟨by decide +kernel, by decide +kernel⟩, List.mem_of_getElem? (i := 663) (by decide +kernel), List.mem_of_getElem? (i := 1078) (by decide +kernel), List.mem_of_getElem? (i := 1079) (by decide +kernel)⟩
def lw_privs_4 : List (MethodName × Nat) := [(⟨"JudgedDepositsModel", "reads", "()V"⟩, 15), (⟨"JudgedDepositsModel", "isByte", "(III)Z"⟩, 15), (⟨"JudgedDepositsModel", "wordHere", "()I"⟩, 15), (⟨"JudgedDepositsModel", "isName", "(II)Z"⟩, 15), (⟨"JudgedDepositsModel", "item", "()V"⟩, 15), (⟨"JudgedDepositsModel", "thingItem", "()V"⟩, 15), (⟨"JudgedDepositsModel", "number", "(II)I"⟩, 15), (⟨"JudgedDepositsModel", "perhaps", "(IIII)I"⟩, 15), (⟨"JudgedDepositsModel", "takes", "(I)Z"⟩, 15), (⟨"JudgedDepositsModel", "twoItem", "(IIIII)V"⟩, 15), (⟨"JudgedDepositsModel", "blowItem", "()V"⟩, 15), (⟨"JudgedDepositsModel", "notCopied", "(IIIII)I"⟩, 15), (⟨"JudgedDepositsModel", "manyHeld", "()I"⟩, 15)]
theorem lw_r4 : ∀ q ∈ lw_privs_4, lw_okq q := List.forall_mem_cons.mpr ⟨lw_p48, List.forall_mem_cons.mpr ⟨lw_p49, List.forall_mem_cons.mpr ⟨lw_p50, List.forall_mem_cons.mpr ⟨lw_p51, List.forall_mem_cons.mpr ⟨lw_p52, List.forall_mem_cons.mpr ⟨lw_p53, List.forall_mem_cons.mpr ⟨lw_p54, List.forall_mem_cons.mpr ⟨lw_p55, List.forall_mem_cons.mpr ⟨lw_p56, List.forall_mem_cons.mpr ⟨lw_p57, List.forall_mem_cons.mpr ⟨lw_p58, List.forall_mem_cons.mpr ⟨lw_p59, List.forall_mem_cons.mpr ⟨lw_p60, fun _ h => absurd h List.not_mem_nil⟩⟩⟩⟩⟩⟩⟩⟩⟩⟩⟩⟩⟩
def lw_privs : List (MethodName × Nat) := lw_privs_1 ++ (lw_privs_2 ++ (lw_privs_3 ++ (lw_privs_4)))
def lw_tbl : List Cond := k2_sels lw_privs ++ tables_1
theorem lw_privs_ok : ∀ q ∈ lw_privs, lw_okq q := by
  show ∀ q ∈ lw_privs_1 ++ (lw_privs_2 ++ (lw_privs_3 ++ (lw_privs_4))), lw_okq q
  exact List.forall_mem_append.mpr ⟨lw_r1, List.forall_mem_append.mpr ⟨lw_r2, List.forall_mem_append.mpr ⟨lw_r3, lw_r4⟩⟩⟩
def RX0 : String := "JudgedDeposits$Estate"
def TX0 : u_T := fun k => match k with
  | 0 => ("JudgedDeposits$Estate", "home", "[I", true)
  | 1 => ("JudgedDeposits$Estate", "list", "[I", true)
  | 2 => ("JudgedDeposits$Estate", "traits", "[I", true)
  | 3 => ("JudgedDeposits$Estate", "spots", "[I", true)
  | 4 => ("JudgedDeposits$Estate", "things", "I", false)
  | 5 => ("JudgedDeposits$Estate", "day", "I", false)
  | _ => ("JudgedDeposits$Estate", "z", "I", false)
def tyX0 : Nat → FieldType := fun k => match k with
  | 0 => .array .int
  | 1 => .array .int
  | 2 => .array .int
  | 3 => .array .int
  | 4 => .int
  | 5 => .int
  | _ => .int
abbrev wsX00 : List Cond := u_ws RX0 TX0 7
theorem nmX0 : ∀ a, a < 7 → ∀ b, b < 7 → a ≠ b → (TX0 a).2.1 ≠ (TX0 b).2.1 := by decide +kernel
theorem tyX0_ok : ∀ k, k < 7 → parseFieldDescriptor (TX0 k).2.2.1 = some (tyX0 k) := by decide +kernel
abbrev cX0_init : ByteArray := prog_2_method_1_code
def yX0_init : MethodName := ⟨RX0, "<init>", "()V"⟩
abbrev cX0_become : ByteArray := prog_2_method_2_code
def yX0_become : MethodName := ⟨RX0, "become", "(LJudgedDeposits$Estate;)V"⟩
abbrev cX0_add : ByteArray := prog_2_method_3_code
def yX0_add : MethodName := ⟨RX0, "add", "(II)I"⟩
abbrev cX0_trait : ByteArray := prog_2_method_4_code
def yX0_trait : MethodName := ⟨RX0, "trait", "(II)I"⟩
abbrev cX0_put : ByteArray := prog_2_method_5_code
def yX0_put : MethodName := ⟨RX0, "put", "(III)V"⟩
abbrev cX0_told : ByteArray := prog_2_method_6_code
def yX0_told : MethodName := ⟨RX0, "told", "(II)I"⟩
abbrev cX0_worth : ByteArray := prog_2_method_7_code
def yX0_worth : MethodName := ⟨RX0, "worth", "(I)I"⟩
abbrev cX0_fair : ByteArray := prog_2_method_8_code
def yX0_fair : MethodName := ⟨RX0, "fair", "(I)I"⟩
abbrev cX0_hurt : ByteArray := prog_2_method_9_code
def yX0_hurt : MethodName := ⟨RX0, "hurt", "(II)I"⟩
abbrev cX0_worse : ByteArray := prog_2_method_10_code
def yX0_worse : MethodName := ⟨RX0, "worse", "(I)I"⟩
abbrev cX0_award : ByteArray := prog_2_method_11_code
def yX0_award : MethodName := ⟨RX0, "award", "(I)I"⟩
abbrev cX0_awardOf : ByteArray := prog_2_method_12_code
def yX0_awardOf : MethodName := ⟨RX0, "awardOf", "(III)I"⟩
abbrev cX0_offersMeet : ByteArray := prog_2_method_13_code
def yX0_offersMeet : MethodName := ⟨RX0, "offersMeet", "()Z"⟩
abbrev cX0_awarded : ByteArray := prog_2_method_14_code
def yX0_awarded : MethodName := ⟨RX0, "awarded", "()I"⟩
abbrev cX0_awardedOf : ByteArray := prog_2_method_15_code
def yX0_awardedOf : MethodName := ⟨RX0, "awardedOf", "(I)I"⟩
abbrev cX0_sum : ByteArray := prog_2_method_16_code
def yX0_sum : MethodName := ⟨RX0, "sum", "(I)I"⟩
abbrev cX0_thingsWith : ByteArray := prog_2_method_17_code
def yX0_thingsWith : MethodName := ⟨RX0, "thingsWith", "(I)I"⟩
abbrev cX0_heldSpots : ByteArray := prog_2_method_18_code
def yX0_heldSpots : MethodName := ⟨RX0, "heldSpots", "()I"⟩
abbrev cX0_draw : ByteArray := prog_2_method_19_code
def yX0_draw : MethodName := ⟨RX0, "draw", "()I"⟩
abbrev cX0_passDays : ByteArray := prog_2_method_20_code
def yX0_passDays : MethodName := ⟨RX0, "passDays", "(I)V"⟩
abbrev cX0_passDay : ByteArray := prog_2_method_21_code
def yX0_passDay : MethodName := ⟨RX0, "passDay", "()V"⟩
abbrev cX0_lower : ByteArray := prog_2_method_22_code
def yX0_lower : MethodName := ⟨RX0, "lower", "(II)V"⟩
def RX1 : String := "JudgedDeposits$Kinds"
def TX1 : u_T := fun k => match k with
  | _ => ("", "", "", false)
def tyX1 : Nat → FieldType := fun k => match k with
  | _ => .int
abbrev wsX10 : List Cond := u_ws RX1 TX1 0
theorem nmX1 : ∀ a, a < 0 → ∀ b, b < 0 → a ≠ b → (TX1 a).2.1 ≠ (TX1 b).2.1 := by decide +kernel
theorem tyX1_ok : ∀ k, k < 0 → parseFieldDescriptor (TX1 k).2.2.1 = some (tyX1 k) := by decide +kernel
abbrev cX1_isOf : ByteArray := prog_3_method_2_code
def yX1_isOf : MethodName := ⟨RX1, "isOf", "(II)Z"⟩
abbrev cX1_lives : ByteArray := prog_3_method_3_code
def yX1_lives : MethodName := ⟨RX1, "lives", "(II)I"⟩
abbrev cX1_worth : ByteArray := prog_3_method_4_code
def yX1_worth : MethodName := ⟨RX1, "worth", "(III)I"⟩
abbrev cX1_shareLeft : ByteArray := prog_3_method_5_code
def yX1_shareLeft : MethodName := ⟨RX1, "shareLeft", "(III)I"⟩
abbrev cX1_fair : ByteArray := prog_3_method_6_code
def yX1_fair : MethodName := ⟨RX1, "fair", "(III)I"⟩
abbrev cX1_hurt : ByteArray := prog_3_method_7_code
def yX1_hurt : MethodName := ⟨RX1, "hurt", "(III)I"⟩
def RX2 : String := "JudgedDeposits$Sheet"
def TX2 : u_T := fun k => match k with
  | 0 => ("JudgedDeposits$Sheet", "numbers", "[I", true)
  | 1 => ("JudgedDeposits$Sheet", "bits", "I", false)
  | _ => ("JudgedDeposits$Sheet", "size", "I", false)
def tyX2 : Nat → FieldType := fun k => match k with
  | 0 => .array .int
  | 1 => .int
  | _ => .int
abbrev wsX20 : List Cond := u_ws RX2 TX2 3
theorem nmX2 : ∀ a, a < 3 → ∀ b, b < 3 → a ≠ b → (TX2 a).2.1 ≠ (TX2 b).2.1 := by decide +kernel
theorem tyX2_ok : ∀ k, k < 3 → parseFieldDescriptor (TX2 k).2.2.1 = some (tyX2 k) := by decide +kernel
abbrev cX2_init : ByteArray := prog_4_method_1_code
def yX2_init : MethodName := ⟨RX2, "<init>", "()V"⟩
abbrev cX2_begin : ByteArray := prog_4_method_2_code
def yX2_begin : MethodName := ⟨RX2, "begin", "(II)V"⟩
abbrev cX2_put : ByteArray := prog_4_method_3_code
def yX2_put : MethodName := ⟨RX2, "put", "(II)V"⟩
abbrev cX2_hasRow : ByteArray := prog_4_method_4_code
def yX2_hasRow : MethodName := ⟨RX2, "hasRow", "(II)Z"⟩
def RX3 : String := "JudgedDeposits$Tape"
def TX3 : u_T := fun k => match k with
  | 0 => ("JudgedDeposits$Tape", "bytes", "[B", true)
  | 1 => ("JudgedDeposits$Tape", "length", "I", false)
  | 2 => ("JudgedDeposits$Tape", "sort", "I", false)
  | 3 => ("JudgedDeposits$Tape", "begin", "I", false)
  | 4 => ("JudgedDeposits$Tape", "end", "I", false)
  | 5 => ("JudgedDeposits$Tape", "number", "I", false)
  | _ => ("JudgedDeposits$Tape", "taken", "I", false)
def tyX3 : Nat → FieldType := fun k => match k with
  | 0 => .array .byte
  | 1 => .int
  | 2 => .int
  | 3 => .int
  | 4 => .int
  | 5 => .int
  | _ => .int
abbrev wsX30 : List Cond := u_ws RX3 TX3 7
theorem nmX3 : ∀ a, a < 7 → ∀ b, b < 7 → a ≠ b → (TX3 a).2.1 ≠ (TX3 b).2.1 := by decide +kernel
theorem tyX3_ok : ∀ k, k < 7 → parseFieldDescriptor (TX3 k).2.2.1 = some (tyX3 k) := by decide +kernel
abbrev cX3_init : ByteArray := prog_5_method_1_code
def yX3_init : MethodName := ⟨RX3, "<init>", "()V"⟩
abbrev cX3_append : ByteArray := prog_5_method_2_code
def yX3_append : MethodName := ⟨RX3, "append", "(B)V"⟩
abbrev cX3_readItems : ByteArray := prog_5_method_3_code
def yX3_readItems : MethodName := ⟨RX3, "readItems", "(LJudgedDeposits$Estate;)I"⟩
abbrev cX3_readItem : ByteArray := prog_5_method_4_code
def yX3_readItem : MethodName := ⟨RX3, "readItem", "(LJudgedDeposits$Estate;)Z"⟩
abbrev cX3_readThing : ByteArray := prog_5_method_5_code
def yX3_readThing : MethodName := ⟨RX3, "readThing", "(LJudgedDeposits$Estate;I)Z"⟩
abbrev cX3_takeHome : ByteArray := prog_5_method_6_code
def yX3_takeHome : MethodName := ⟨RX3, "takeHome", "(LJudgedDeposits$Estate;I)Z"⟩
abbrev cX3_readBlow : ByteArray := prog_5_method_7_code
def yX3_readBlow : MethodName := ⟨RX3, "readBlow", "(LJudgedDeposits$Estate;)Z"⟩
abbrev cX3_takeNumber : ByteArray := prog_5_method_8_code
def yX3_takeNumber : MethodName := ⟨RX3, "takeNumber", "(II)Z"⟩
abbrev cX3_takeWord : ByteArray := prog_5_method_9_code
def yX3_takeWord : MethodName := ⟨RX3, "takeWord", "(Ljava/lang/String;)Z"⟩
abbrev cX3_wordOfKind : ByteArray := prog_5_method_10_code
def yX3_wordOfKind : MethodName := ⟨RX3, "wordOfKind", "(I)Ljava/lang/String;"⟩
abbrev cX3_wordOfTrait : ByteArray := prog_5_method_11_code
def yX3_wordOfTrait : MethodName := ⟨RX3, "wordOfTrait", "(I)Ljava/lang/String;"⟩
abbrev cX3_wordIs : ByteArray := prog_5_method_12_code
def yX3_wordIs : MethodName := ⟨RX3, "wordIs", "(Ljava/lang/String;)Z"⟩
abbrev cX3_nextToken : ByteArray := prog_5_method_13_code
def yX3_nextToken : MethodName := ⟨RX3, "nextToken", "()V"⟩
abbrev cX3_sortOf : ByteArray := prog_5_method_14_code
def yX3_sortOf : MethodName := ⟨RX3, "sortOf", "(B)I"⟩
def RX4 : String := "JudgedDeposits"
def TX4 : u_T := fun k => match k with
  | 0 => ("JudgedDeposits", "estate", "LJudgedDeposits$Estate;", true)
  | 1 => ("JudgedDeposits", "kept", "LJudgedDeposits$Estate;", true)
  | 2 => ("JudgedDeposits", "trial", "LJudgedDeposits$Estate;", true)
  | 3 => ("JudgedDeposits", "tape", "LJudgedDeposits$Tape;", true)
  | 4 => ("JudgedDeposits", "sheets", "[LJudgedDeposits$Sheet;", true)
  | 5 => ("JudgedDeposits", "found", "[I", true)
  | 6 => ("JudgedDeposits", "awards", "[I", true)
  | 7 => ("JudgedDeposits", "worses", "[I", true)
  | _ => ("JudgedDeposits", "imageKept", "Z", false)
def tyX4 : Nat → FieldType := fun k => match k with
  | 0 => .object "JudgedDeposits$Estate"
  | 1 => .object "JudgedDeposits$Estate"
  | 2 => .object "JudgedDeposits$Estate"
  | 3 => .object "JudgedDeposits$Tape"
  | 4 => .array (.object "JudgedDeposits$Sheet")
  | 5 => .array .int
  | 6 => .array .int
  | 7 => .array .int
  | _ => .boolean
abbrev wsX40 : List Cond := u_ws RX4 TX4 9
theorem nmX4 : ∀ a, a < 9 → ∀ b, b < 9 → a ≠ b → (TX4 a).2.1 ≠ (TX4 b).2.1 := by decide +kernel
theorem tyX4_ok : ∀ k, k < 9 → parseFieldDescriptor (TX4 k).2.2.1 = some (tyX4 k) := by decide +kernel
abbrev cX4_init : ByteArray := prog_1_method_1_code
def yX4_init : MethodName := ⟨RX4, "<init>", "()V"⟩
abbrev cX4_set : ByteArray := prog_1_method_2_code
def yX4_set : MethodName := ⟨RX4, "set", "(II)I"⟩
abbrev cX4_home : ByteArray := prog_1_method_3_code
def yX4_home : MethodName := ⟨RX4, "home", "(I)I"⟩
abbrev cX4_blow : ByteArray := prog_1_method_4_code
def yX4_blow : MethodName := ⟨RX4, "blow", "(III)I"⟩
abbrev cX4_listed : ByteArray := prog_1_method_5_code
def yX4_listed : MethodName := ⟨RX4, "listed", "(I)I"⟩
abbrev cX4_thing : ByteArray := prog_1_method_6_code
def yX4_thing : MethodName := ⟨RX4, "thing", "(II)I"⟩
abbrev cX4_of : ByteArray := prog_1_method_7_code
def yX4_of : MethodName := ⟨RX4, "of", "(II)I"⟩
abbrev cX4_change : ByteArray := prog_1_method_8_code
def yX4_change : MethodName := ⟨RX4, "change", "(III)I"⟩
abbrev cX4_hurts : ByteArray := prog_1_method_9_code
def yX4_hurts : MethodName := ⟨RX4, "hurts", "(II)I"⟩
abbrev cX4_go : ByteArray := prog_1_method_10_code
def yX4_go : MethodName := ⟨RX4, "go", "(I)I"⟩
abbrev cX4_now : ByteArray := prog_1_method_11_code
def yX4_now : MethodName := ⟨RX4, "now", "(I)I"⟩
abbrev cX4_ahead : ByteArray := prog_1_method_12_code
def yX4_ahead : MethodName := ⟨RX4, "ahead", "(III)I"⟩
abbrev cX4_judged : ByteArray := prog_1_method_13_code
def yX4_judged : MethodName := ⟨RX4, "judged", "(I)I"⟩
abbrev cX4_worthless : ByteArray := prog_1_method_14_code
def yX4_worthless : MethodName := ⟨RX4, "worthless", "(II)I"⟩
abbrev cX4_owing : ByteArray := prog_1_method_15_code
def yX4_owing : MethodName := ⟨RX4, "owing", "(II)I"⟩
abbrev cX4_forgiven : ByteArray := prog_1_method_16_code
def yX4_forgiven : MethodName := ⟨RX4, "forgiven", "()I"⟩
abbrev cX4_claimFor : ByteArray := prog_1_method_17_code
def yX4_claimFor : MethodName := ⟨RX4, "claimFor", "(II)I"⟩
abbrev cX4_peopleFor : ByteArray := prog_1_method_18_code
def yX4_peopleFor : MethodName := ⟨RX4, "peopleFor", "(I)I"⟩
abbrev cX4_kindFor : ByteArray := prog_1_method_19_code
def yX4_kindFor : MethodName := ⟨RX4, "kindFor", "(II)I"⟩
abbrev cX4_forceFor : ByteArray := prog_1_method_20_code
def yX4_forceFor : MethodName := ⟨RX4, "forceFor", "(III)I"⟩
abbrev cX4_giveUp : ByteArray := prog_1_method_21_code
def yX4_giveUp : MethodName := ⟨RX4, "giveUp", "(II)I"⟩
abbrev cX4_fits : ByteArray := prog_1_method_22_code
def yX4_fits : MethodName := ⟨RX4, "fits", "(II)I"⟩
abbrev cX4_kinds : ByteArray := prog_1_method_23_code
def yX4_kinds : MethodName := ⟨RX4, "kinds", "(II)I"⟩
abbrev cX4_month : ByteArray := prog_1_method_24_code
def yX4_month : MethodName := ⟨RX4, "month", "(I)I"⟩
abbrev cX4_odds : ByteArray := prog_1_method_25_code
def yX4_odds : MethodName := ⟨RX4, "odds", "(IIII)J"⟩
abbrev cX4_seed : ByteArray := prog_1_method_26_code
def yX4_seed : MethodName := ⟨RX4, "seed", "(I)I"⟩
abbrev cX4_feed : ByteArray := prog_1_method_27_code
def yX4_feed : MethodName := ⟨RX4, "feed", "(II)I"⟩
abbrev cX4_wipe : ByteArray := prog_1_method_28_code
def yX4_wipe : MethodName := ⟨RX4, "wipe", "()I"⟩
abbrev cX4_text : ByteArray := prog_1_method_29_code
def yX4_text : MethodName := ⟨RX4, "text", "()I"⟩
abbrev cX4_hold : ByteArray := prog_1_method_30_code
def yX4_hold : MethodName := ⟨RX4, "hold", "(II)I"⟩
abbrev cX4_as : ByteArray := prog_1_method_31_code
def yX4_as : MethodName := ⟨RX4, "as", "(II)I"⟩
abbrev cX4_sheet : ByteArray := prog_1_method_32_code
def yX4_sheet : MethodName := ⟨RX4, "sheet", "(III)I"⟩
abbrev cX4_write : ByteArray := prog_1_method_33_code
def yX4_write : MethodName := ⟨RX4, "write", "(III)I"⟩
abbrev cX4_copy : ByteArray := prog_1_method_34_code
def yX4_copy : MethodName := ⟨RX4, "copy", "(IIIII)I"⟩
abbrev cX4_load : ByteArray := prog_1_method_35_code
def yX4_load : MethodName := ⟨RX4, "load", "(I)I"⟩
abbrev cX4_judge : ByteArray := prog_1_method_36_code
def yX4_judge : MethodName := ⟨RX4, "judge", "(I)I"⟩
abbrev cX4_image : ByteArray := prog_1_method_37_code
def yX4_image : MethodName := ⟨RX4, "image", "()I"⟩
abbrev cX4_undo : ByteArray := prog_1_method_38_code
def yX4_undo : MethodName := ⟨RX4, "undo", "()I"⟩
abbrev cX4_tear : ByteArray := prog_1_method_39_code
def yX4_tear : MethodName := ⟨RX4, "tear", "()I"⟩
abbrev cX4_count : ByteArray := prog_1_method_40_code
def yX4_count : MethodName := ⟨RX4, "count", "(I)I"⟩
abbrev cX4_status : ByteArray := prog_1_method_41_code
def yX4_status : MethodName := ⟨RX4, "status", "(I)I"⟩
abbrev cX4_tell : ByteArray := prog_1_method_42_code
def yX4_tell : MethodName := ⟨RX4, "tell", "(I)I"⟩
abbrev cX4_within : ByteArray := prog_1_method_43_code
def yX4_within : MethodName := ⟨RX4, "within", "(III)Z"⟩
abbrev cX4_isThing : ByteArray := prog_1_method_44_code
def yX4_isThing : MethodName := ⟨RX4, "isThing", "(I)Z"⟩
abbrev cX4_isKind : ByteArray := prog_1_method_45_code
def yX4_isKind : MethodName := ⟨RX4, "isKind", "(I)Z"⟩
abbrev cX4_isPlace : ByteArray := prog_1_method_46_code
def yX4_isPlace : MethodName := ⟨RX4, "isPlace", "(I)Z"⟩
abbrev cX4_isForce : ByteArray := prog_1_method_47_code
def yX4_isForce : MethodName := ⟨RX4, "isForce", "(I)Z"⟩
abbrev cX4_isSpot : ByteArray := prog_1_method_48_code
def yX4_isSpot : MethodName := ⟨RX4, "isSpot", "(I)Z"⟩
abbrev cX4_isSheet : ByteArray := prog_1_method_49_code
def yX4_isSheet : MethodName := ⟨RX4, "isSheet", "(I)Z"⟩
abbrev cX4_lackOf : ByteArray := prog_1_method_50_code
def yX4_lackOf : MethodName := ⟨RX4, "lackOf", "(I)I"⟩
abbrev cX4_lackFor : ByteArray := prog_1_method_51_code
def yX4_lackFor : MethodName := ⟨RX4, "lackFor", "(II)I"⟩
abbrev cX4_blowOf : ByteArray := prog_1_method_52_code
def yX4_blowOf : MethodName := ⟨RX4, "blowOf", "(II)I"⟩
abbrev cX4_thingOfBlow : ByteArray := prog_1_method_53_code
def yX4_thingOfBlow : MethodName := ⟨RX4, "thingOfBlow", "(I)I"⟩
abbrev cX4_forceOfBlow : ByteArray := prog_1_method_54_code
def yX4_forceOfBlow : MethodName := ⟨RX4, "forceOfBlow", "(I)I"⟩
abbrev cX4_awardedBehind : ByteArray := prog_1_method_55_code
def yX4_awardedBehind : MethodName := ⟨RX4, "awardedBehind", "(I)I"⟩
abbrev cX4_leftWithout : ByteArray := prog_1_method_56_code
def yX4_leftWithout : MethodName := ⟨RX4, "leftWithout", "(I)I"⟩
abbrev cX4_foreseeWorses : ByteArray := prog_1_method_57_code
def yX4_foreseeWorses : MethodName := ⟨RX4, "foreseeWorses", "(I)V"⟩
abbrev cX4_ageFits : ByteArray := prog_1_method_58_code
def yX4_ageFits : MethodName := ⟨RX4, "ageFits", "(LJudgedDeposits$Sheet;II)Z"⟩
abbrev cX4_kindFits : ByteArray := prog_1_method_59_code
def yX4_kindFits : MethodName := ⟨RX4, "kindFits", "(LJudgedDeposits$Sheet;II)Z"⟩
abbrev cX4_commonDivisor : ByteArray := prog_1_method_60_code
def yX4_commonDivisor : MethodName := ⟨RX4, "commonDivisor", "(II)I"⟩
abbrev cX4_power : ByteArray := prog_1_method_61_code
def yX4_power : MethodName := ⟨RX4, "power", "(II)J"⟩
def RX5 : String := "JudgedDepositsModel"
def TX5 : u_T := fun k => match k with
  | 0 => ("JudgedDepositsModel", "m", "[I", true)
  | 1 => ("JudgedDepositsModel", "kept", "[I", true)
  | 2 => ("JudgedDepositsModel", "was", "[I", true)
  | 3 => ("JudgedDepositsModel", "isKept", "Z", false)
  | 4 => ("JudgedDepositsModel", "found", "[I", true)
  | 5 => ("JudgedDepositsModel", "bitsOf", "[I", true)
  | 6 => ("JudgedDepositsModel", "sizeOf", "[I", true)
  | 7 => ("JudgedDepositsModel", "cells", "[I", true)
  | 8 => ("JudgedDepositsModel", "tape", "[I", true)
  | 9 => ("JudgedDepositsModel", "taped", "I", false)
  | 10 => ("JudgedDepositsModel", "token", "I", false)
  | 11 => ("JudgedDepositsModel", "begin", "I", false)
  | 12 => ("JudgedDepositsModel", "at", "I", false)
  | 13 => ("JudgedDepositsModel", "value", "I", false)
  | _ => ("JudgedDepositsModel", "bad", "Z", false)
def tyX5 : Nat → FieldType := fun k => match k with
  | 0 => .array .int
  | 1 => .array .int
  | 2 => .array .int
  | 3 => .boolean
  | 4 => .array .int
  | 5 => .array .int
  | 6 => .array .int
  | 7 => .array .int
  | 8 => .array .int
  | 9 => .int
  | 10 => .int
  | 11 => .int
  | 12 => .int
  | 13 => .int
  | _ => .boolean
abbrev wsX50 : List Cond := u_ws RX5 TX5 15
theorem nmX5 : ∀ a, a < 15 → ∀ b, b < 15 → a ≠ b → (TX5 a).2.1 ≠ (TX5 b).2.1 := by decide +kernel
theorem tyX5_ok : ∀ k, k < 15 → parseFieldDescriptor (TX5 k).2.2.1 = some (tyX5 k) := by decide +kernel
abbrev cX5_init : ByteArray := prog_7_method_1_code
def yX5_init : MethodName := ⟨RX5, "<init>", "()V"⟩
abbrev cX5_finds : ByteArray := prog_7_method_2_code
def yX5_finds : MethodName := ⟨RX5, "finds", "(I)I"⟩
abbrev cX5_orNone : ByteArray := prog_7_method_3_code
def yX5_orNone : MethodName := ⟨RX5, "orNone", "(I)I"⟩
abbrev cX5_in : ByteArray := prog_7_method_4_code
def yX5_in : MethodName := ⟨RX5, "in", "(III)Z"⟩
abbrev cX5_held : ByteArray := prog_7_method_5_code
def yX5_held : MethodName := ⟨RX5, "held", "(III)I"⟩
abbrev cX5_copyAll : ByteArray := prog_7_method_6_code
def yX5_copyAll : MethodName := ⟨RX5, "copyAll", "([I[I)V"⟩
abbrev cX5_becomes : ByteArray := prog_7_method_7_code
def yX5_becomes : MethodName := ⟨RX5, "becomes", "(II)I"⟩
abbrev cX5_isThing : ByteArray := prog_7_method_8_code
def yX5_isThing : MethodName := ⟨RX5, "isThing", "(I)Z"⟩
abbrev cX5_isPlace : ByteArray := prog_7_method_9_code
def yX5_isPlace : MethodName := ⟨RX5, "isPlace", "(I)Z"⟩
abbrev cX5_it : ByteArray := prog_7_method_10_code
def yX5_it : MethodName := ⟨RX5, "it", "(II)I"⟩
abbrev cX5_put : ByteArray := prog_7_method_11_code
def yX5_put : MethodName := ⟨RX5, "put", "(III)V"⟩
abbrev cX5_bits : ByteArray := prog_7_method_12_code
def yX5_bits : MethodName := ⟨RX5, "bits", "(I)I"⟩
abbrev cX5_lives : ByteArray := prog_7_method_13_code
def yX5_lives : MethodName := ⟨RX5, "lives", "(I)I"⟩
abbrev cX5_worth : ByteArray := prog_7_method_14_code
def yX5_worth : MethodName := ⟨RX5, "worth", "(I)I"⟩
abbrev cX5_fair : ByteArray := prog_7_method_15_code
def yX5_fair : MethodName := ⟨RX5, "fair", "(I)I"⟩
abbrev cX5_hurtsBy : ByteArray := prog_7_method_16_code
def yX5_hurtsBy : MethodName := ⟨RX5, "hurtsBy", "(II)I"⟩
abbrev cX5_worse : ByteArray := prog_7_method_17_code
def yX5_worse : MethodName := ⟨RX5, "worse", "(I)I"⟩
abbrev cX5_award : ByteArray := prog_7_method_18_code
def yX5_award : MethodName := ⟨RX5, "award", "(I)I"⟩
abbrev cX5_doMeet : ByteArray := prog_7_method_19_code
def yX5_doMeet : MethodName := ⟨RX5, "doMeet", "()Z"⟩
abbrev cX5_awarded : ByteArray := prog_7_method_20_code
def yX5_awarded : MethodName := ⟨RX5, "awarded", "()I"⟩
abbrev cX5_mostOfHome : ByteArray := prog_7_method_21_code
def yX5_mostOfHome : MethodName := ⟨RX5, "mostOfHome", "(I)I"⟩
abbrev cX5_set : ByteArray := prog_7_method_22_code
def yX5_set : MethodName := ⟨RX5, "set", "(II)I"⟩
abbrev cX5_home : ByteArray := prog_7_method_23_code
def yX5_home : MethodName := ⟨RX5, "home", "(I)I"⟩
abbrev cX5_blow : ByteArray := prog_7_method_24_code
def yX5_blow : MethodName := ⟨RX5, "blow", "(III)I"⟩
abbrev cX5_listed : ByteArray := prog_7_method_25_code
def yX5_listed : MethodName := ⟨RX5, "listed", "(I)I"⟩
abbrev cX5_comes : ByteArray := prog_7_method_26_code
def yX5_comes : MethodName := ⟨RX5, "comes", "(II)I"⟩
abbrev cX5_thing : ByteArray := prog_7_method_27_code
def yX5_thing : MethodName := ⟨RX5, "thing", "(II)I"⟩
abbrev cX5_of : ByteArray := prog_7_method_28_code
def yX5_of : MethodName := ⟨RX5, "of", "(II)I"⟩
abbrev cX5_mostOf : ByteArray := prog_7_method_29_code
def yX5_mostOf : MethodName := ⟨RX5, "mostOf", "(I)I"⟩
abbrev cX5_change : ByteArray := prog_7_method_30_code
def yX5_change : MethodName := ⟨RX5, "change", "(III)I"⟩
abbrev cX5_hurts : ByteArray := prog_7_method_31_code
def yX5_hurts : MethodName := ⟨RX5, "hurts", "(II)I"⟩
abbrev cX5_goes : ByteArray := prog_7_method_32_code
def yX5_goes : MethodName := ⟨RX5, "goes", "()V"⟩
abbrev cX5_goesFor : ByteArray := prog_7_method_33_code
def yX5_goesFor : MethodName := ⟨RX5, "goesFor", "(I)V"⟩
abbrev cX5_go : ByteArray := prog_7_method_34_code
def yX5_go : MethodName := ⟨RX5, "go", "(I)I"⟩
abbrev cX5_claims : ByteArray := prog_7_method_35_code
def yX5_claims : MethodName := ⟨RX5, "claims", "()I"⟩
abbrev cX5_worseOnes : ByteArray := prog_7_method_36_code
def yX5_worseOnes : MethodName := ⟨RX5, "worseOnes", "()I"⟩
abbrev cX5_awardedOnes : ByteArray := prog_7_method_37_code
def yX5_awardedOnes : MethodName := ⟨RX5, "awardedOnes", "()I"⟩
abbrev cX5_allWorth : ByteArray := prog_7_method_38_code
def yX5_allWorth : MethodName := ⟨RX5, "allWorth", "()I"⟩
abbrev cX5_now : ByteArray := prog_7_method_39_code
def yX5_now : MethodName := ⟨RX5, "now", "(I)I"⟩
abbrev cX5_thinks : ByteArray := prog_7_method_40_code
def yX5_thinks : MethodName := ⟨RX5, "thinks", "()V"⟩
abbrev cX5_putsBack : ByteArray := prog_7_method_41_code
def yX5_putsBack : MethodName := ⟨RX5, "putsBack", "()V"⟩
abbrev cX5_ahead : ByteArray := prog_7_method_42_code
def yX5_ahead : MethodName := ⟨RX5, "ahead", "(III)I"⟩
abbrev cX5_awardedOn : ByteArray := prog_7_method_43_code
def yX5_awardedOn : MethodName := ⟨RX5, "awardedOn", "(I)I"⟩
abbrev cX5_judged : ByteArray := prog_7_method_44_code
def yX5_judged : MethodName := ⟨RX5, "judged", "(I)I"⟩
abbrev cX5_worthless : ByteArray := prog_7_method_45_code
def yX5_worthless : MethodName := ⟨RX5, "worthless", "(II)I"⟩
abbrev cX5_owing : ByteArray := prog_7_method_46_code
def yX5_owing : MethodName := ⟨RX5, "owing", "(II)I"⟩
abbrev cX5_forgiven : ByteArray := prog_7_method_47_code
def yX5_forgiven : MethodName := ⟨RX5, "forgiven", "()I"⟩
abbrev cX5_claimFor : ByteArray := prog_7_method_48_code
def yX5_claimFor : MethodName := ⟨RX5, "claimFor", "(II)I"⟩
abbrev cX5_leastBy : ByteArray := prog_7_method_49_code
def yX5_leastBy : MethodName := ⟨RX5, "leastBy", "(IIII)I"⟩
abbrev cX5_peopleFor : ByteArray := prog_7_method_50_code
def yX5_peopleFor : MethodName := ⟨RX5, "peopleFor", "(I)I"⟩
abbrev cX5_kindFor : ByteArray := prog_7_method_51_code
def yX5_kindFor : MethodName := ⟨RX5, "kindFor", "(II)I"⟩
abbrev cX5_forceFor : ByteArray := prog_7_method_52_code
def yX5_forceFor : MethodName := ⟨RX5, "forceFor", "(III)I"⟩
abbrev cX5_isLeft : ByteArray := prog_7_method_53_code
def yX5_isLeft : MethodName := ⟨RX5, "isLeft", "(III)Z"⟩
abbrev cX5_giveUp : ByteArray := prog_7_method_54_code
def yX5_giveUp : MethodName := ⟨RX5, "giveUp", "(II)I"⟩
abbrev cX5_isSheet : ByteArray := prog_7_method_55_code
def yX5_isSheet : MethodName := ⟨RX5, "isSheet", "(I)Z"⟩
abbrev cX5_notThere : ByteArray := prog_7_method_56_code
def yX5_notThere : MethodName := ⟨RX5, "notThere", "(I)I"⟩
abbrev cX5_notAsked : ByteArray := prog_7_method_57_code
def yX5_notAsked : MethodName := ⟨RX5, "notAsked", "(II)I"⟩
abbrev cX5_isTold : ByteArray := prog_7_method_58_code
def yX5_isTold : MethodName := ⟨RX5, "isTold", "(II)Z"⟩
abbrev cX5_fits : ByteArray := prog_7_method_59_code
def yX5_fits : MethodName := ⟨RX5, "fits", "(II)I"⟩
abbrev cX5_kinds : ByteArray := prog_7_method_60_code
def yX5_kinds : MethodName := ⟨RX5, "kinds", "(II)I"⟩
abbrev cX5_draw : ByteArray := prog_7_method_61_code
def yX5_draw : MethodName := ⟨RX5, "draw", "()I"⟩
abbrev cX5_month : ByteArray := prog_7_method_62_code
def yX5_month : MethodName := ⟨RX5, "month", "(I)I"⟩
abbrev cX5_odds : ByteArray := prog_7_method_63_code
def yX5_odds : MethodName := ⟨RX5, "odds", "(IIII)J"⟩
abbrev cX5_seed : ByteArray := prog_7_method_64_code
def yX5_seed : MethodName := ⟨RX5, "seed", "(I)I"⟩
abbrev cX5_feed : ByteArray := prog_7_method_65_code
def yX5_feed : MethodName := ⟨RX5, "feed", "(II)I"⟩
abbrev cX5_wipe : ByteArray := prog_7_method_66_code
def yX5_wipe : MethodName := ⟨RX5, "wipe", "()I"⟩
abbrev cX5_isByte : ByteArray := prog_7_method_67_code
def yX5_isByte : MethodName := ⟨RX5, "isByte", "(III)Z"⟩
abbrev cX5_isName : ByteArray := prog_7_method_68_code
def yX5_isName : MethodName := ⟨RX5, "isName", "(II)Z"⟩
abbrev cX5_wordHere : ByteArray := prog_7_method_69_code
def yX5_wordHere : MethodName := ⟨RX5, "wordHere", "()I"⟩
abbrev cX5_reads : ByteArray := prog_7_method_70_code
def yX5_reads : MethodName := ⟨RX5, "reads", "()V"⟩
abbrev cX5_takes : ByteArray := prog_7_method_71_code
def yX5_takes : MethodName := ⟨RX5, "takes", "(I)Z"⟩
abbrev cX5_number : ByteArray := prog_7_method_72_code
def yX5_number : MethodName := ⟨RX5, "number", "(II)I"⟩
abbrev cX5_perhaps : ByteArray := prog_7_method_73_code
def yX5_perhaps : MethodName := ⟨RX5, "perhaps", "(IIII)I"⟩
abbrev cX5_thingItem : ByteArray := prog_7_method_74_code
def yX5_thingItem : MethodName := ⟨RX5, "thingItem", "()V"⟩
abbrev cX5_twoItem : ByteArray := prog_7_method_75_code
def yX5_twoItem : MethodName := ⟨RX5, "twoItem", "(IIIII)V"⟩
abbrev cX5_blowItem : ByteArray := prog_7_method_76_code
def yX5_blowItem : MethodName := ⟨RX5, "blowItem", "()V"⟩
abbrev cX5_item : ByteArray := prog_7_method_77_code
def yX5_item : MethodName := ⟨RX5, "item", "()V"⟩
abbrev cX5_text : ByteArray := prog_7_method_78_code
def yX5_text : MethodName := ⟨RX5, "text", "()I"⟩
abbrev cX5_hold : ByteArray := prog_7_method_79_code
def yX5_hold : MethodName := ⟨RX5, "hold", "(II)I"⟩
abbrev cX5_isUnder : ByteArray := prog_7_method_80_code
def yX5_isUnder : MethodName := ⟨RX5, "isUnder", "(II)Z"⟩
abbrev cX5_as : ByteArray := prog_7_method_81_code
def yX5_as : MethodName := ⟨RX5, "as", "(II)I"⟩
abbrev cX5_sheet : ByteArray := prog_7_method_82_code
def yX5_sheet : MethodName := ⟨RX5, "sheet", "(III)I"⟩
abbrev cX5_write : ByteArray := prog_7_method_83_code
def yX5_write : MethodName := ⟨RX5, "write", "(III)I"⟩
abbrev cX5_notCopied : ByteArray := prog_7_method_84_code
def yX5_notCopied : MethodName := ⟨RX5, "notCopied", "(IIIII)I"⟩
abbrev cX5_copy : ByteArray := prog_7_method_85_code
def yX5_copy : MethodName := ⟨RX5, "copy", "(IIIII)I"⟩
abbrev cX5_load : ByteArray := prog_7_method_86_code
def yX5_load : MethodName := ⟨RX5, "load", "(I)I"⟩
abbrev cX5_judge : ByteArray := prog_7_method_87_code
def yX5_judge : MethodName := ⟨RX5, "judge", "(I)I"⟩
abbrev cX5_image : ByteArray := prog_7_method_88_code
def yX5_image : MethodName := ⟨RX5, "image", "()I"⟩
abbrev cX5_undo : ByteArray := prog_7_method_89_code
def yX5_undo : MethodName := ⟨RX5, "undo", "()I"⟩
abbrev cX5_tear : ByteArray := prog_7_method_90_code
def yX5_tear : MethodName := ⟨RX5, "tear", "()I"⟩
abbrev cX5_manyHeld : ByteArray := prog_7_method_91_code
def yX5_manyHeld : MethodName := ⟨RX5, "manyHeld", "()I"⟩
abbrev cX5_count : ByteArray := prog_7_method_92_code
def yX5_count : MethodName := ⟨RX5, "count", "(I)I"⟩
abbrev cX5_status : ByteArray := prog_7_method_93_code
def yX5_status : MethodName := ⟨RX5, "status", "(I)I"⟩
def RJx145de : String := "java/io/Serializable"
def TJx145de : u_T := fun k => match k with
  | _ => ("", "", "", false)
def tyJx145de : Nat → FieldType := fun k => match k with
  | _ => .int
abbrev wsJx145de0 : List Cond := u_ws RJx145de TJx145de 0
theorem nmJx145de : ∀ a, a < 0 → ∀ b, b < 0 → a ≠ b → (TJx145de a).2.1 ≠ (TJx145de b).2.1 := by decide +kernel
theorem tyJx145de_ok : ∀ k, k < 0 → parseFieldDescriptor (TJx145de k).2.2.1 = some (tyJx145de k) := by decide +kernel
def RJx9f9b0 : String := "java/lang/CharSequence"
def TJx9f9b0 : u_T := fun k => match k with
  | _ => ("", "", "", false)
def tyJx9f9b0 : Nat → FieldType := fun k => match k with
  | _ => .int
abbrev wsJx9f9b00 : List Cond := u_ws RJx9f9b0 TJx9f9b0 0
theorem nmJx9f9b0 : ∀ a, a < 0 → ∀ b, b < 0 → a ≠ b → (TJx9f9b0 a).2.1 ≠ (TJx9f9b0 b).2.1 := by decide +kernel
theorem tyJx9f9b0_ok : ∀ k, k < 0 → parseFieldDescriptor (TJx9f9b0 k).2.2.1 = some (tyJx9f9b0 k) := by decide +kernel
def RJx8e188 : String := "java/lang/Cloneable"
def TJx8e188 : u_T := fun k => match k with
  | _ => ("", "", "", false)
def tyJx8e188 : Nat → FieldType := fun k => match k with
  | _ => .int
abbrev wsJx8e1880 : List Cond := u_ws RJx8e188 TJx8e188 0
theorem nmJx8e188 : ∀ a, a < 0 → ∀ b, b < 0 → a ≠ b → (TJx8e188 a).2.1 ≠ (TJx8e188 b).2.1 := by decide +kernel
theorem tyJx8e188_ok : ∀ k, k < 0 → parseFieldDescriptor (TJx8e188 k).2.2.1 = some (tyJx8e188 k) := by decide +kernel
def RJxb160c : String := "java/lang/Comparable"
def TJxb160c : u_T := fun k => match k with
  | _ => ("", "", "", false)
def tyJxb160c : Nat → FieldType := fun k => match k with
  | _ => .int
abbrev wsJxb160c0 : List Cond := u_ws RJxb160c TJxb160c 0
theorem nmJxb160c : ∀ a, a < 0 → ∀ b, b < 0 → a ≠ b → (TJxb160c a).2.1 ≠ (TJxb160c b).2.1 := by decide +kernel
theorem tyJxb160c_ok : ∀ k, k < 0 → parseFieldDescriptor (TJxb160c k).2.2.1 = some (tyJxb160c k) := by decide +kernel
def RJ6 : String := "java/lang/Integer"
def TJ6 : u_T := fun k => match k with
  | _ => ("", "", "", false)
def tyJ6 : Nat → FieldType := fun k => match k with
  | _ => .int
abbrev wsJ60 : List Cond := u_ws RJ6 TJ6 0
theorem nmJ6 : ∀ a, a < 0 → ∀ b, b < 0 → a ≠ b → (TJ6 a).2.1 ≠ (TJ6 b).2.1 := by decide +kernel
theorem tyJ6_ok : ∀ k, k < 0 → parseFieldDescriptor (TJ6 k).2.2.1 = some (tyJ6 k) := by decide +kernel
abbrev cJ6_bitCount_0f7a4 : ByteArray := prog_9_method_49_code
def yJ6_bitCount_0f7a4 : MethodName := ⟨RJ6, "bitCount", "(I)I"⟩
def RJ9 : String := "java/lang/Math"
def TJ9 : u_T := fun k => match k with
  | _ => ("", "", "", false)
def tyJ9 : Nat → FieldType := fun k => match k with
  | _ => .int
abbrev wsJ90 : List Cond := u_ws RJ9 TJ9 0
theorem nmJ9 : ∀ a, a < 0 → ∀ b, b < 0 → a ≠ b → (TJ9 a).2.1 ≠ (TJ9 b).2.1 := by decide +kernel
theorem tyJ9_ok : ∀ k, k < 0 → parseFieldDescriptor (TJ9 k).2.2.1 = some (tyJ9 k) := by decide +kernel
abbrev cJ9_max_7cf53 : ByteArray := prog_10_method_65_code
def yJ9_max_7cf53 : MethodName := ⟨RJ9, "max", "(II)I"⟩
abbrev cJ9_min_7cf53 : ByteArray := prog_10_method_69_code
def yJ9_min_7cf53 : MethodName := ⟨RJ9, "min", "(II)I"⟩
def RJ0 : String := "java/lang/String"
def TJ0 : u_T := fun k => match k with
  | _ => ("", "", "", false)
def tyJ0 : Nat → FieldType := fun k => match k with
  | _ => .int
abbrev wsJ00 : List Cond := u_ws RJ0 TJ0 0
theorem nmJ0 : ∀ a, a < 0 → ∀ b, b < 0 → a ≠ b → (TJ0 a).2.1 ≠ (TJ0 b).2.1 := by decide +kernel
theorem tyJ0_ok : ∀ k, k < 0 → parseFieldDescriptor (TJ0 k).2.2.1 = some (tyJ0 k) := by decide +kernel
abbrev cJ0_length_8abf5 : ByteArray := prog_11_method_54_code
def yJ0_length_8abf5 : MethodName := ⟨RJ0, "length", "()I"⟩
abbrev cJ0_charAt_5068e : ByteArray := prog_11_method_56_code
def yJ0_charAt_5068e : MethodName := ⟨RJ0, "charAt", "(I)C"⟩
abbrev cJ0_coder_7d493 : ByteArray := prog_11_method_152_code
def yJ0_coder_7d493 : MethodName := ⟨RJ0, "coder", "()B"⟩
abbrev cJ0_isLatin1_aae02 : ByteArray := prog_11_method_154_code
def yJ0_isLatin1_aae02 : MethodName := ⟨RJ0, "isLatin1", "()Z"⟩
abbrev cJ0_checkIndex_df160 : ByteArray := prog_11_method_155_code
def yJ0_checkIndex_df160 : MethodName := ⟨RJ0, "checkIndex", "(II)V"⟩
def RJ1 : String := "java/lang/StringLatin1"
def TJ1 : u_T := fun k => match k with
  | _ => ("", "", "", false)
def tyJ1 : Nat → FieldType := fun k => match k with
  | _ => .int
abbrev wsJ10 : List Cond := u_ws RJ1 TJ1 0
theorem nmJ1 : ∀ a, a < 0 → ∀ b, b < 0 → a ≠ b → (TJ1 a).2.1 ≠ (TJ1 b).2.1 := by decide +kernel
theorem tyJ1_ok : ∀ k, k < 0 → parseFieldDescriptor (TJ1 k).2.2.1 = some (tyJ1 k) := by decide +kernel
abbrev cJ1_charAt_3b067 : ByteArray := prog_12_method_2_code
def yJ1_charAt_3b067 : MethodName := ⟨RJ1, "charAt", "([BI)C"⟩
def RJ2 : String := "java/lang/StringUTF16"
def TJ2 : u_T := fun k => match k with
  | _ => ("", "", "", false)
def tyJ2 : Nat → FieldType := fun k => match k with
  | _ => .int
abbrev wsJ20 : List Cond := u_ws RJ2 TJ2 0
theorem nmJ2 : ∀ a, a < 0 → ∀ b, b < 0 → a ≠ b → (TJ2 a).2.1 ≠ (TJ2 b).2.1 := by decide +kernel
theorem tyJ2_ok : ∀ k, k < 0 → parseFieldDescriptor (TJ2 k).2.2.1 = some (tyJ2 k) := by decide +kernel
abbrev cJ2_getChar_3b067 : ByteArray := prog_13_method_5_code
def yJ2_getChar_3b067 : MethodName := ⟨RJ2, "getChar", "([BI)C"⟩
abbrev cJ2_length_9d52b : ByteArray := prog_13_method_6_code
def yJ2_length_9d52b : MethodName := ⟨RJ2, "length", "([B)I"⟩
abbrev cJ2_charAt_3b067 : ByteArray := prog_13_method_83_code
def yJ2_charAt_3b067 : MethodName := ⟨RJ2, "charAt", "([BI)C"⟩
abbrev cJ2_checkIndex_2214a : ByteArray := prog_13_method_91_code
def yJ2_checkIndex_2214a : MethodName := ⟨RJ2, "checkIndex", "(I[B)V"⟩
def RJ10 : String := "java/lang/System"
def TJ10 : u_T := fun k => match k with
  | _ => ("", "", "", false)
def tyJ10 : Nat → FieldType := fun k => match k with
  | _ => .int
abbrev wsJ100 : List Cond := u_ws RJ10 TJ10 0
theorem nmJ10 : ∀ a, a < 0 → ∀ b, b < 0 → a ≠ b → (TJ10 a).2.1 ≠ (TJ10 b).2.1 := by decide +kernel
theorem tyJ10_ok : ∀ k, k < 0 → parseFieldDescriptor (TJ10 k).2.2.1 = some (tyJ10 k) := by decide +kernel
def RJxfd54e : String := "java/lang/constant/Constable"
def TJxfd54e : u_T := fun k => match k with
  | _ => ("", "", "", false)
def tyJxfd54e : Nat → FieldType := fun k => match k with
  | _ => .int
abbrev wsJxfd54e0 : List Cond := u_ws RJxfd54e TJxfd54e 0
theorem nmJxfd54e : ∀ a, a < 0 → ∀ b, b < 0 → a ≠ b → (TJxfd54e a).2.1 ≠ (TJxfd54e b).2.1 := by decide +kernel
theorem tyJxfd54e_ok : ∀ k, k < 0 → parseFieldDescriptor (TJxfd54e k).2.2.1 = some (tyJxfd54e k) := by decide +kernel
def RJx3cf43 : String := "java/lang/constant/ConstantDesc"
def TJx3cf43 : u_T := fun k => match k with
  | _ => ("", "", "", false)
def tyJx3cf43 : Nat → FieldType := fun k => match k with
  | _ => .int
abbrev wsJx3cf430 : List Cond := u_ws RJx3cf43 TJx3cf43 0
theorem nmJx3cf43 : ∀ a, a < 0 → ∀ b, b < 0 → a ≠ b → (TJx3cf43 a).2.1 ≠ (TJx3cf43 b).2.1 := by decide +kernel
theorem tyJx3cf43_ok : ∀ k, k < 0 → parseFieldDescriptor (TJx3cf43 k).2.2.1 = some (tyJx3cf43 k) := by decide +kernel
def RJ7 : String := "java/util/Arrays"
def TJ7 : u_T := fun k => match k with
  | _ => ("", "", "", false)
def tyJ7 : Nat → FieldType := fun k => match k with
  | _ => .int
abbrev wsJ70 : List Cond := u_ws RJ7 TJ7 0
theorem nmJ7 : ∀ a, a < 0 → ∀ b, b < 0 → a ≠ b → (TJ7 a).2.1 ≠ (TJ7 b).2.1 := by decide +kernel
theorem tyJ7_ok : ∀ k, k < 0 → parseFieldDescriptor (TJ7 k).2.2.1 = some (tyJ7 k) := by decide +kernel
abbrev cJ7_fill_53178 : ByteArray := prog_15_method_103_code
def yJ7_fill_53178 : MethodName := ⟨RJ7, "fill", "([II)V"⟩
def RJ3 : String := "jdk/internal/util/Preconditions"
def TJ3 : u_T := fun k => match k with
  | _ => ("", "", "", false)
def tyJ3 : Nat → FieldType := fun k => match k with
  | _ => .int
abbrev wsJ30 : List Cond := u_ws RJ3 TJ3 0
theorem nmJ3 : ∀ a, a < 0 → ∀ b, b < 0 → a ≠ b → (TJ3 a).2.1 ≠ (TJ3 b).2.1 := by decide +kernel
theorem tyJ3_ok : ∀ k, k < 0 → parseFieldDescriptor (TJ3 k).2.2.1 = some (tyJ3 k) := by decide +kernel
abbrev cJ3_checkIndex_8e157 : ByteArray := prog_16_method_11_code
def yJ3_checkIndex_8e157 : MethodName := ⟨RJ3, "checkIndex", "(IILjava/util/function/BiFunction;)I"⟩
def RL : String := "JudgedDepositsLaw"
abbrev cL_law : ByteArray := code
def yL_law : MethodName := ⟨RL, "law", "([I)Z"⟩
abbrev vwCl : List vw_C := [(RX0, TX0, 7), (RX2, TX2, 3), (RX3, TX3, 7), (RX4, TX4, 9), (RX5, TX5, 15)]
