section
-- ===== PART A: goes FIRST, ahead of the names: the tables' words, and 'selects' of the private methods out of them =====
/-- a private method of a class that the tables say can be made, by its rows of tables_1 -/
def lw_okq (q : MethodName × Nat) : Prop := (q.1.cls ≠ "java/lang/invoke/MethodHandle" ∧ q.1.cls ≠ "java/lang/invoke/VarHandle") ∧ Cond.instantiable q.1.cls q.2 ∈ tables_1 ∧ Cond.privateMethod q.1 ∈ tables_1 ∧ Cond.instanceMethod q.1 ∈ tables_1
theorem lw_p0 : lw_okq (⟨"JudgedDeposits", "tell", "(I)I"⟩, 9) := ⟨⟨by decide +kernel, by decide +kernel⟩, List.mem_of_getElem? (i := 16) (by decide +kernel), List.mem_of_getElem? (i := 163) (by decide +kernel), List.mem_of_getElem? (i := 164) (by decide +kernel)⟩
theorem lw_p1 : lw_okq (⟨"JudgedDeposits", "isThing", "(I)Z"⟩, 9) := ⟨⟨by decide +kernel, by decide +kernel⟩, List.mem_of_getElem? (i := 16) (by decide +kernel), List.mem_of_getElem? (i := 210) (by decide +kernel), List.mem_of_getElem? (i := 211) (by decide +kernel)⟩
theorem lw_p2 : lw_okq (⟨"JudgedDeposits$Estate", "lower", "(II)V"⟩, 7) := ⟨⟨by decide +kernel, by decide +kernel⟩, List.mem_of_getElem? (i := 24) (by decide +kernel), List.mem_of_getElem? (i := 301) (by decide +kernel), List.mem_of_getElem? (i := 302) (by decide +kernel)⟩
theorem lw_p3 : lw_okq (⟨"JudgedDeposits", "awardedBehind", "(I)I"⟩, 9) := ⟨⟨by decide +kernel, by decide +kernel⟩, List.mem_of_getElem? (i := 16) (by decide +kernel), List.mem_of_getElem? (i := 347) (by decide +kernel), List.mem_of_getElem? (i := 348) (by decide +kernel)⟩
theorem lw_p4 : lw_okq (⟨"JudgedDeposits", "leftWithout", "(I)I"⟩, 9) := ⟨⟨by decide +kernel, by decide +kernel⟩, List.mem_of_getElem? (i := 16) (by decide +kernel), List.mem_of_getElem? (i := 392) (by decide +kernel), List.mem_of_getElem? (i := 393) (by decide +kernel)⟩
theorem lw_p5 : lw_okq (⟨"JudgedDeposits", "lackFor", "(II)I"⟩, 9) := ⟨⟨by decide +kernel, by decide +kernel⟩, List.mem_of_getElem? (i := 16) (by decide +kernel), List.mem_of_getElem? (i := 401) (by decide +kernel), List.mem_of_getElem? (i := 402) (by decide +kernel)⟩
theorem lw_p6 : lw_okq (⟨"JudgedDeposits", "lackOf", "(I)I"⟩, 9) := ⟨⟨by decide +kernel, by decide +kernel⟩, List.mem_of_getElem? (i := 16) (by decide +kernel), List.mem_of_getElem? (i := 405) (by decide +kernel), List.mem_of_getElem? (i := 406) (by decide +kernel)⟩
theorem lw_p7 : lw_okq (⟨"JudgedDeposits", "foreseeWorses", "(I)V"⟩, 9) := ⟨⟨by decide +kernel, by decide +kernel⟩, List.mem_of_getElem? (i := 16) (by decide +kernel), List.mem_of_getElem? (i := 412) (by decide +kernel), List.mem_of_getElem? (i := 413) (by decide +kernel)⟩
theorem lw_p8 : lw_okq (⟨"JudgedDeposits", "ageFits", "(LJudgedDeposits$Sheet;II)Z"⟩, 9) := ⟨⟨by decide +kernel, by decide +kernel⟩, List.mem_of_getElem? (i := 16) (by decide +kernel), List.mem_of_getElem? (i := 417) (by decide +kernel), List.mem_of_getElem? (i := 418) (by decide +kernel)⟩
theorem lw_p9 : lw_okq (⟨"JudgedDeposits", "kindFits", "(LJudgedDeposits$Sheet;II)Z"⟩, 9) := ⟨⟨by decide +kernel, by decide +kernel⟩, List.mem_of_getElem? (i := 16) (by decide +kernel), List.mem_of_getElem? (i := 428) (by decide +kernel), List.mem_of_getElem? (i := 429) (by decide +kernel)⟩
theorem lw_p10 : lw_okq (⟨"JudgedDeposits$Tape", "nextToken", "()V"⟩, 7) := ⟨⟨by decide +kernel, by decide +kernel⟩, List.mem_of_getElem? (i := 74) (by decide +kernel), List.mem_of_getElem? (i := 475) (by decide +kernel), List.mem_of_getElem? (i := 476) (by decide +kernel)⟩
theorem lw_p11 : lw_okq (⟨"JudgedDeposits$Tape", "readItem", "(LJudgedDeposits$Estate;)Z"⟩, 7) := ⟨⟨by decide +kernel, by decide +kernel⟩, List.mem_of_getElem? (i := 74) (by decide +kernel), List.mem_of_getElem? (i := 483) (by decide +kernel), List.mem_of_getElem? (i := 484) (by decide +kernel)⟩
theorem lw_p12 : lw_okq (⟨"JudgedDeposits$Tape", "wordIs", "(Ljava/lang/String;)Z"⟩, 7) := ⟨⟨by decide +kernel, by decide +kernel⟩, List.mem_of_getElem? (i := 74) (by decide +kernel), List.mem_of_getElem? (i := 497) (by decide +kernel), List.mem_of_getElem? (i := 498) (by decide +kernel)⟩
theorem lw_p13 : lw_okq (⟨"JudgedDeposits$Tape", "readThing", "(LJudgedDeposits$Estate;I)Z"⟩, 7) := ⟨⟨by decide +kernel, by decide +kernel⟩, List.mem_of_getElem? (i := 74) (by decide +kernel), List.mem_of_getElem? (i := 549) (by decide +kernel), List.mem_of_getElem? (i := 550) (by decide +kernel)⟩
theorem lw_p14 : lw_okq (⟨"JudgedDeposits$Tape", "takeNumber", "(II)Z"⟩, 7) := ⟨⟨by decide +kernel, by decide +kernel⟩, List.mem_of_getElem? (i := 74) (by decide +kernel), List.mem_of_getElem? (i := 554) (by decide +kernel), List.mem_of_getElem? (i := 555) (by decide +kernel)⟩
theorem lw_p15 : lw_okq (⟨"JudgedDeposits$Tape", "takeWord", "(Ljava/lang/String;)Z"⟩, 7) := ⟨⟨by decide +kernel, by decide +kernel⟩, List.mem_of_getElem? (i := 74) (by decide +kernel), List.mem_of_getElem? (i := 567) (by decide +kernel), List.mem_of_getElem? (i := 568) (by decide +kernel)⟩
def lw_privs_1 : List (MethodName × Nat) := [(⟨"JudgedDeposits", "tell", "(I)I"⟩, 9), (⟨"JudgedDeposits", "isThing", "(I)Z"⟩, 9), (⟨"JudgedDeposits$Estate", "lower", "(II)V"⟩, 7), (⟨"JudgedDeposits", "awardedBehind", "(I)I"⟩, 9), (⟨"JudgedDeposits", "leftWithout", "(I)I"⟩, 9), (⟨"JudgedDeposits", "lackFor", "(II)I"⟩, 9), (⟨"JudgedDeposits", "lackOf", "(I)I"⟩, 9), (⟨"JudgedDeposits", "foreseeWorses", "(I)V"⟩, 9), (⟨"JudgedDeposits", "ageFits", "(LJudgedDeposits$Sheet;II)Z"⟩, 9), (⟨"JudgedDeposits", "kindFits", "(LJudgedDeposits$Sheet;II)Z"⟩, 9), (⟨"JudgedDeposits$Tape", "nextToken", "()V"⟩, 7), (⟨"JudgedDeposits$Tape", "readItem", "(LJudgedDeposits$Estate;)Z"⟩, 7), (⟨"JudgedDeposits$Tape", "wordIs", "(Ljava/lang/String;)Z"⟩, 7), (⟨"JudgedDeposits$Tape", "readThing", "(LJudgedDeposits$Estate;I)Z"⟩, 7), (⟨"JudgedDeposits$Tape", "takeNumber", "(II)Z"⟩, 7), (⟨"JudgedDeposits$Tape", "takeWord", "(Ljava/lang/String;)Z"⟩, 7)]
theorem lw_r1 : ∀ q ∈ lw_privs_1, lw_okq q := List.forall_mem_cons.mpr ⟨lw_p0, List.forall_mem_cons.mpr ⟨lw_p1, List.forall_mem_cons.mpr ⟨lw_p2, List.forall_mem_cons.mpr ⟨lw_p3, List.forall_mem_cons.mpr ⟨lw_p4, List.forall_mem_cons.mpr ⟨lw_p5, List.forall_mem_cons.mpr ⟨lw_p6, List.forall_mem_cons.mpr ⟨lw_p7, List.forall_mem_cons.mpr ⟨lw_p8, List.forall_mem_cons.mpr ⟨lw_p9, List.forall_mem_cons.mpr ⟨lw_p10, List.forall_mem_cons.mpr ⟨lw_p11, List.forall_mem_cons.mpr ⟨lw_p12, List.forall_mem_cons.mpr ⟨lw_p13, List.forall_mem_cons.mpr ⟨lw_p14, List.forall_mem_cons.mpr ⟨lw_p15, fun _ h => absurd h List.not_mem_nil⟩⟩⟩⟩⟩⟩⟩⟩⟩⟩⟩⟩⟩⟩⟩⟩
theorem lw_p16 : lw_okq (⟨"JudgedDeposits$Tape", "takeHome", "(LJudgedDeposits$Estate;I)Z"⟩, 7) := ⟨⟨by decide +kernel, by decide +kernel⟩, List.mem_of_getElem? (i := 74) (by decide +kernel), List.mem_of_getElem? (i := 573) (by decide +kernel), List.mem_of_getElem? (i := 574) (by decide +kernel)⟩
theorem lw_p17 : lw_okq (⟨"JudgedDeposits$Tape", "readBlow", "(LJudgedDeposits$Estate;)Z"⟩, 7) := ⟨⟨by decide +kernel, by decide +kernel⟩, List.mem_of_getElem? (i := 74) (by decide +kernel), List.mem_of_getElem? (i := 582) (by decide +kernel), List.mem_of_getElem? (i := 583) (by decide +kernel)⟩
theorem lw_p18 : lw_okq (⟨"JudgedDepositsModel", "becomes", "(II)I"⟩, 15) := ⟨⟨by decide +kernel, by decide +kernel⟩, List.mem_of_getElem? (i := 663) (by decide +kernel), List.mem_of_getElem? (i := 725) (by decide +kernel), List.mem_of_getElem? (i := 726) (by decide +kernel)⟩
theorem lw_p19 : lw_okq (⟨"JudgedDepositsModel", "finds", "(I)I"⟩, 15) := ⟨⟨by decide +kernel, by decide +kernel⟩, List.mem_of_getElem? (i := 663) (by decide +kernel), List.mem_of_getElem? (i := 730) (by decide +kernel), List.mem_of_getElem? (i := 731) (by decide +kernel)⟩
theorem lw_p20 : lw_okq (⟨"JudgedDepositsModel", "comes", "(II)I"⟩, 15) := ⟨⟨by decide +kernel, by decide +kernel⟩, List.mem_of_getElem? (i := 663) (by decide +kernel), List.mem_of_getElem? (i := 754) (by decide +kernel), List.mem_of_getElem? (i := 755) (by decide +kernel)⟩
theorem lw_p21 : lw_okq (⟨"JudgedDepositsModel", "put", "(III)V"⟩, 15) := ⟨⟨by decide +kernel, by decide +kernel⟩, List.mem_of_getElem? (i := 663) (by decide +kernel), List.mem_of_getElem? (i := 758) (by decide +kernel), List.mem_of_getElem? (i := 759) (by decide +kernel)⟩
theorem lw_p22 : lw_okq (⟨"JudgedDepositsModel", "isThing", "(I)Z"⟩, 15) := ⟨⟨by decide +kernel, by decide +kernel⟩, List.mem_of_getElem? (i := 663) (by decide +kernel), List.mem_of_getElem? (i := 766) (by decide +kernel), List.mem_of_getElem? (i := 767) (by decide +kernel)⟩
theorem lw_p23 : lw_okq (⟨"JudgedDepositsModel", "lives", "(I)I"⟩, 15) := ⟨⟨by decide +kernel, by decide +kernel⟩, List.mem_of_getElem? (i := 663) (by decide +kernel), List.mem_of_getElem? (i := 770) (by decide +kernel), List.mem_of_getElem? (i := 771) (by decide +kernel)⟩
theorem lw_p24 : lw_okq (⟨"JudgedDepositsModel", "it", "(II)I"⟩, 15) := ⟨⟨by decide +kernel, by decide +kernel⟩, List.mem_of_getElem? (i := 663) (by decide +kernel), List.mem_of_getElem? (i := 774) (by decide +kernel), List.mem_of_getElem? (i := 775) (by decide +kernel)⟩
theorem lw_p25 : lw_okq (⟨"JudgedDepositsModel", "worth", "(I)I"⟩, 15) := ⟨⟨by decide +kernel, by decide +kernel⟩, List.mem_of_getElem? (i := 663) (by decide +kernel), List.mem_of_getElem? (i := 778) (by decide +kernel), List.mem_of_getElem? (i := 779) (by decide +kernel)⟩
theorem lw_p26 : lw_okq (⟨"JudgedDepositsModel", "fair", "(I)I"⟩, 15) := ⟨⟨by decide +kernel, by decide +kernel⟩, List.mem_of_getElem? (i := 663) (by decide +kernel), List.mem_of_getElem? (i := 785) (by decide +kernel), List.mem_of_getElem? (i := 786) (by decide +kernel)⟩
theorem lw_p27 : lw_okq (⟨"JudgedDepositsModel", "worse", "(I)I"⟩, 15) := ⟨⟨by decide +kernel, by decide +kernel⟩, List.mem_of_getElem? (i := 663) (by decide +kernel), List.mem_of_getElem? (i := 789) (by decide +kernel), List.mem_of_getElem? (i := 790) (by decide +kernel)⟩
theorem lw_p28 : lw_okq (⟨"JudgedDepositsModel", "award", "(I)I"⟩, 15) := ⟨⟨by decide +kernel, by decide +kernel⟩, List.mem_of_getElem? (i := 663) (by decide +kernel), List.mem_of_getElem? (i := 793) (by decide +kernel), List.mem_of_getElem? (i := 794) (by decide +kernel)⟩
theorem lw_p29 : lw_okq (⟨"JudgedDepositsModel", "hurtsBy", "(II)I"⟩, 15) := ⟨⟨by decide +kernel, by decide +kernel⟩, List.mem_of_getElem? (i := 663) (by decide +kernel), List.mem_of_getElem? (i := 808) (by decide +kernel), List.mem_of_getElem? (i := 809) (by decide +kernel)⟩
theorem lw_p30 : lw_okq (⟨"JudgedDepositsModel", "goesFor", "(I)V"⟩, 15) := ⟨⟨by decide +kernel, by decide +kernel⟩, List.mem_of_getElem? (i := 663) (by decide +kernel), List.mem_of_getElem? (i := 818) (by decide +kernel), List.mem_of_getElem? (i := 819) (by decide +kernel)⟩
theorem lw_p31 : lw_okq (⟨"JudgedDepositsModel", "goes", "()V"⟩, 15) := ⟨⟨by decide +kernel, by decide +kernel⟩, List.mem_of_getElem? (i := 663) (by decide +kernel), List.mem_of_getElem? (i := 822) (by decide +kernel), List.mem_of_getElem? (i := 823) (by decide +kernel)⟩
def lw_privs_2 : List (MethodName × Nat) := [(⟨"JudgedDeposits$Tape", "takeHome", "(LJudgedDeposits$Estate;I)Z"⟩, 7), (⟨"JudgedDeposits$Tape", "readBlow", "(LJudgedDeposits$Estate;)Z"⟩, 7), (⟨"JudgedDepositsModel", "becomes", "(II)I"⟩, 15), (⟨"JudgedDepositsModel", "finds", "(I)I"⟩, 15), (⟨"JudgedDepositsModel", "comes", "(II)I"⟩, 15), (⟨"JudgedDepositsModel", "put", "(III)V"⟩, 15), (⟨"JudgedDepositsModel", "isThing", "(I)Z"⟩, 15), (⟨"JudgedDepositsModel", "lives", "(I)I"⟩, 15), (⟨"JudgedDepositsModel", "it", "(II)I"⟩, 15), (⟨"JudgedDepositsModel", "worth", "(I)I"⟩, 15), (⟨"JudgedDepositsModel", "fair", "(I)I"⟩, 15), (⟨"JudgedDepositsModel", "worse", "(I)I"⟩, 15), (⟨"JudgedDepositsModel", "award", "(I)I"⟩, 15), (⟨"JudgedDepositsModel", "hurtsBy", "(II)I"⟩, 15), (⟨"JudgedDepositsModel", "goesFor", "(I)V"⟩, 15), (⟨"JudgedDepositsModel", "goes", "()V"⟩, 15)]
theorem lw_r2 : ∀ q ∈ lw_privs_2, lw_okq q := List.forall_mem_cons.mpr ⟨lw_p16, List.forall_mem_cons.mpr ⟨lw_p17, List.forall_mem_cons.mpr ⟨lw_p18, List.forall_mem_cons.mpr ⟨lw_p19, List.forall_mem_cons.mpr ⟨lw_p20, List.forall_mem_cons.mpr ⟨lw_p21, List.forall_mem_cons.mpr ⟨lw_p22, List.forall_mem_cons.mpr ⟨lw_p23, List.forall_mem_cons.mpr ⟨lw_p24, List.forall_mem_cons.mpr ⟨lw_p25, List.forall_mem_cons.mpr ⟨lw_p26, List.forall_mem_cons.mpr ⟨lw_p27, List.forall_mem_cons.mpr ⟨lw_p28, List.forall_mem_cons.mpr ⟨lw_p29, List.forall_mem_cons.mpr ⟨lw_p30, List.forall_mem_cons.mpr ⟨lw_p31, fun _ h => absurd h List.not_mem_nil⟩⟩⟩⟩⟩⟩⟩⟩⟩⟩⟩⟩⟩⟩⟩⟩
theorem lw_p32 : lw_okq (⟨"JudgedDepositsModel", "awarded", "()I"⟩, 15) := ⟨⟨by decide +kernel, by decide +kernel⟩, List.mem_of_getElem? (i := 663) (by decide +kernel), List.mem_of_getElem? (i := 826) (by decide +kernel), List.mem_of_getElem? (i := 827) (by decide +kernel)⟩
theorem lw_p33 : lw_okq (⟨"JudgedDepositsModel", "doMeet", "()Z"⟩, 15) := ⟨⟨by decide +kernel, by decide +kernel⟩, List.mem_of_getElem? (i := 663) (by decide +kernel), List.mem_of_getElem? (i := 830) (by decide +kernel), List.mem_of_getElem? (i := 831) (by decide +kernel)⟩
theorem lw_p34 : lw_okq (⟨"JudgedDepositsModel", "claims", "()I"⟩, 15) := ⟨⟨by decide +kernel, by decide +kernel⟩, List.mem_of_getElem? (i := 663) (by decide +kernel), List.mem_of_getElem? (i := 838) (by decide +kernel), List.mem_of_getElem? (i := 839) (by decide +kernel)⟩
theorem lw_p35 : lw_okq (⟨"JudgedDepositsModel", "worseOnes", "()I"⟩, 15) := ⟨⟨by decide +kernel, by decide +kernel⟩, List.mem_of_getElem? (i := 663) (by decide +kernel), List.mem_of_getElem? (i := 842) (by decide +kernel), List.mem_of_getElem? (i := 843) (by decide +kernel)⟩
theorem lw_p36 : lw_okq (⟨"JudgedDepositsModel", "awardedOnes", "()I"⟩, 15) := ⟨⟨by decide +kernel, by decide +kernel⟩, List.mem_of_getElem? (i := 663) (by decide +kernel), List.mem_of_getElem? (i := 846) (by decide +kernel), List.mem_of_getElem? (i := 847) (by decide +kernel)⟩
theorem lw_p37 : lw_okq (⟨"JudgedDepositsModel", "allWorth", "()I"⟩, 15) := ⟨⟨by decide +kernel, by decide +kernel⟩, List.mem_of_getElem? (i := 663) (by decide +kernel), List.mem_of_getElem? (i := 850) (by decide +kernel), List.mem_of_getElem? (i := 851) (by decide +kernel)⟩
theorem lw_p38 : lw_okq (⟨"JudgedDepositsModel", "thinks", "()V"⟩, 15) := ⟨⟨by decide +kernel, by decide +kernel⟩, List.mem_of_getElem? (i := 663) (by decide +kernel), List.mem_of_getElem? (i := 858) (by decide +kernel), List.mem_of_getElem? (i := 859) (by decide +kernel)⟩
theorem lw_p39 : lw_okq (⟨"JudgedDepositsModel", "putsBack", "()V"⟩, 15) := ⟨⟨by decide +kernel, by decide +kernel⟩, List.mem_of_getElem? (i := 663) (by decide +kernel), List.mem_of_getElem? (i := 866) (by decide +kernel), List.mem_of_getElem? (i := 867) (by decide +kernel)⟩
theorem lw_p40 : lw_okq (⟨"JudgedDepositsModel", "awardedOn", "(I)I"⟩, 15) := ⟨⟨by decide +kernel, by decide +kernel⟩, List.mem_of_getElem? (i := 663) (by decide +kernel), List.mem_of_getElem? (i := 874) (by decide +kernel), List.mem_of_getElem? (i := 875) (by decide +kernel)⟩
theorem lw_p41 : lw_okq (⟨"JudgedDepositsModel", "leastBy", "(IIII)I"⟩, 15) := ⟨⟨by decide +kernel, by decide +kernel⟩, List.mem_of_getElem? (i := 663) (by decide +kernel), List.mem_of_getElem? (i := 899) (by decide +kernel), List.mem_of_getElem? (i := 900) (by decide +kernel)⟩
theorem lw_p42 : lw_okq (⟨"JudgedDepositsModel", "orNone", "(I)I"⟩, 15) := ⟨⟨by decide +kernel, by decide +kernel⟩, List.mem_of_getElem? (i := 663) (by decide +kernel), List.mem_of_getElem? (i := 911) (by decide +kernel), List.mem_of_getElem? (i := 912) (by decide +kernel)⟩
theorem lw_p43 : lw_okq (⟨"JudgedDepositsModel", "isLeft", "(III)Z"⟩, 15) := ⟨⟨by decide +kernel, by decide +kernel⟩, List.mem_of_getElem? (i := 663) (by decide +kernel), List.mem_of_getElem? (i := 922) (by decide +kernel), List.mem_of_getElem? (i := 923) (by decide +kernel)⟩
theorem lw_p44 : lw_okq (⟨"JudgedDepositsModel", "notAsked", "(II)I"⟩, 15) := ⟨⟨by decide +kernel, by decide +kernel⟩, List.mem_of_getElem? (i := 663) (by decide +kernel), List.mem_of_getElem? (i := 930) (by decide +kernel), List.mem_of_getElem? (i := 931) (by decide +kernel)⟩
theorem lw_p45 : lw_okq (⟨"JudgedDepositsModel", "notThere", "(I)I"⟩, 15) := ⟨⟨by decide +kernel, by decide +kernel⟩, List.mem_of_getElem? (i := 663) (by decide +kernel), List.mem_of_getElem? (i := 934) (by decide +kernel), List.mem_of_getElem? (i := 935) (by decide +kernel)⟩
theorem lw_p46 : lw_okq (⟨"JudgedDepositsModel", "isTold", "(II)Z"⟩, 15) := ⟨⟨by decide +kernel, by decide +kernel⟩, List.mem_of_getElem? (i := 663) (by decide +kernel), List.mem_of_getElem? (i := 942) (by decide +kernel), List.mem_of_getElem? (i := 943) (by decide +kernel)⟩
theorem lw_p47 : lw_okq (⟨"JudgedDepositsModel", "draw", "()I"⟩, 15) := ⟨⟨by decide +kernel, by decide +kernel⟩, List.mem_of_getElem? (i := 663) (by decide +kernel), List.mem_of_getElem? (i := 954) (by decide +kernel), List.mem_of_getElem? (i := 955) (by decide +kernel)⟩
def lw_privs_3 : List (MethodName × Nat) := [(⟨"JudgedDepositsModel", "awarded", "()I"⟩, 15), (⟨"JudgedDepositsModel", "doMeet", "()Z"⟩, 15), (⟨"JudgedDepositsModel", "claims", "()I"⟩, 15), (⟨"JudgedDepositsModel", "worseOnes", "()I"⟩, 15), (⟨"JudgedDepositsModel", "awardedOnes", "()I"⟩, 15), (⟨"JudgedDepositsModel", "allWorth", "()I"⟩, 15), (⟨"JudgedDepositsModel", "thinks", "()V"⟩, 15), (⟨"JudgedDepositsModel", "putsBack", "()V"⟩, 15), (⟨"JudgedDepositsModel", "awardedOn", "(I)I"⟩, 15), (⟨"JudgedDepositsModel", "leastBy", "(IIII)I"⟩, 15), (⟨"JudgedDepositsModel", "orNone", "(I)I"⟩, 15), (⟨"JudgedDepositsModel", "isLeft", "(III)Z"⟩, 15), (⟨"JudgedDepositsModel", "notAsked", "(II)I"⟩, 15), (⟨"JudgedDepositsModel", "notThere", "(I)I"⟩, 15), (⟨"JudgedDepositsModel", "isTold", "(II)Z"⟩, 15), (⟨"JudgedDepositsModel", "draw", "()I"⟩, 15)]
theorem lw_r3 : ∀ q ∈ lw_privs_3, lw_okq q := List.forall_mem_cons.mpr ⟨lw_p32, List.forall_mem_cons.mpr ⟨lw_p33, List.forall_mem_cons.mpr ⟨lw_p34, List.forall_mem_cons.mpr ⟨lw_p35, List.forall_mem_cons.mpr ⟨lw_p36, List.forall_mem_cons.mpr ⟨lw_p37, List.forall_mem_cons.mpr ⟨lw_p38, List.forall_mem_cons.mpr ⟨lw_p39, List.forall_mem_cons.mpr ⟨lw_p40, List.forall_mem_cons.mpr ⟨lw_p41, List.forall_mem_cons.mpr ⟨lw_p42, List.forall_mem_cons.mpr ⟨lw_p43, List.forall_mem_cons.mpr ⟨lw_p44, List.forall_mem_cons.mpr ⟨lw_p45, List.forall_mem_cons.mpr ⟨lw_p46, List.forall_mem_cons.mpr ⟨lw_p47, fun _ h => absurd h List.not_mem_nil⟩⟩⟩⟩⟩⟩⟩⟩⟩⟩⟩⟩⟩⟩⟩⟩
theorem lw_p48 : lw_okq (⟨"JudgedDepositsModel", "reads", "()V"⟩, 15) := ⟨⟨by decide +kernel, by decide +kernel⟩, List.mem_of_getElem? (i := 663) (by decide +kernel), List.mem_of_getElem? (i := 979) (by decide +kernel), List.mem_of_getElem? (i := 980) (by decide +kernel)⟩
theorem lw_p49 : lw_okq (⟨"JudgedDepositsModel", "isByte", "(III)Z"⟩, 15) := ⟨⟨by decide +kernel, by decide +kernel⟩, List.mem_of_getElem? (i := 663) (by decide +kernel), List.mem_of_getElem? (i := 983) (by decide +kernel), List.mem_of_getElem? (i := 984) (by decide +kernel)⟩
theorem lw_p50 : lw_okq (⟨"JudgedDepositsModel", "wordHere", "()I"⟩, 15) := ⟨⟨by decide +kernel, by decide +kernel⟩, List.mem_of_getElem? (i := 663) (by decide +kernel), List.mem_of_getElem? (i := 987) (by decide +kernel), List.mem_of_getElem? (i := 988) (by decide +kernel)⟩
theorem lw_p51 : lw_okq (⟨"JudgedDepositsModel", "isName", "(II)Z"⟩, 15) := ⟨⟨by decide +kernel, by decide +kernel⟩, List.mem_of_getElem? (i := 663) (by decide +kernel), List.mem_of_getElem? (i := 991) (by decide +kernel), List.mem_of_getElem? (i := 992) (by decide +kernel)⟩
theorem lw_p52 : lw_okq (⟨"JudgedDepositsModel", "item", "()V"⟩, 15) := ⟨⟨by decide +kernel, by decide +kernel⟩, List.mem_of_getElem? (i := 663) (by decide +kernel), List.mem_of_getElem? (i := 997) (by decide +kernel), List.mem_of_getElem? (i := 998) (by decide +kernel)⟩
theorem lw_p53 : lw_okq (⟨"JudgedDepositsModel", "thingItem", "()V"⟩, 15) := ⟨⟨by decide +kernel, by decide +kernel⟩, List.mem_of_getElem? (i := 663) (by decide +kernel), List.mem_of_getElem? (i := 1001) (by decide +kernel), List.mem_of_getElem? (i := 1002) (by decide +kernel)⟩
theorem lw_p54 : lw_okq (⟨"JudgedDepositsModel", "number", "(II)I"⟩, 15) := ⟨⟨by decide +kernel, by decide +kernel⟩, List.mem_of_getElem? (i := 663) (by decide +kernel), List.mem_of_getElem? (i := 1005) (by decide +kernel), List.mem_of_getElem? (i := 1006) (by decide +kernel)⟩
theorem lw_p55 : lw_okq (⟨"JudgedDepositsModel", "perhaps", "(IIII)I"⟩, 15) := ⟨⟨by decide +kernel, by decide +kernel⟩, List.mem_of_getElem? (i := 663) (by decide +kernel), List.mem_of_getElem? (i := 1009) (by decide +kernel), List.mem_of_getElem? (i := 1010) (by decide +kernel)⟩
theorem lw_p56 : lw_okq (⟨"JudgedDepositsModel", "takes", "(I)Z"⟩, 15) := ⟨⟨by decide +kernel, by decide +kernel⟩, List.mem_of_getElem? (i := 663) (by decide +kernel), List.mem_of_getElem? (i := 1013) (by decide +kernel), List.mem_of_getElem? (i := 1014) (by decide +kernel)⟩
theorem lw_p57 : lw_okq (⟨"JudgedDepositsModel", "twoItem", "(IIIII)V"⟩, 15) := ⟨⟨by decide +kernel, by decide +kernel⟩, List.mem_of_getElem? (i := 663) (by decide +kernel), List.mem_of_getElem? (i := 1017) (by decide +kernel), List.mem_of_getElem? (i := 1018) (by decide +kernel)⟩
theorem lw_p58 : lw_okq (⟨"JudgedDepositsModel", "blowItem", "()V"⟩, 15) := ⟨⟨by decide +kernel, by decide +kernel⟩, List.mem_of_getElem? (i := 663) (by decide +kernel), List.mem_of_getElem? (i := 1021) (by decide +kernel), List.mem_of_getElem? (i := 1022) (by decide +kernel)⟩
theorem lw_p59 : lw_okq (⟨"JudgedDepositsModel", "notCopied", "(IIIII)I"⟩, 15) := ⟨⟨by decide +kernel, by decide +kernel⟩, List.mem_of_getElem? (i := 663) (by decide +kernel), List.mem_of_getElem? (i := 1050) (by decide +kernel), List.mem_of_getElem? (i := 1051) (by decide +kernel)⟩
theorem lw_p60 : lw_okq (⟨"JudgedDepositsModel", "manyHeld", "()I"⟩, 15) := ⟨⟨by decide +kernel, by decide +kernel⟩, List.mem_of_getElem? (i := 663) (by decide +kernel), List.mem_of_getElem? (i := 1078) (by decide +kernel), List.mem_of_getElem? (i := 1079) (by decide +kernel)⟩
def lw_privs_4 : List (MethodName × Nat) := [(⟨"JudgedDepositsModel", "reads", "()V"⟩, 15), (⟨"JudgedDepositsModel", "isByte", "(III)Z"⟩, 15), (⟨"JudgedDepositsModel", "wordHere", "()I"⟩, 15), (⟨"JudgedDepositsModel", "isName", "(II)Z"⟩, 15), (⟨"JudgedDepositsModel", "item", "()V"⟩, 15), (⟨"JudgedDepositsModel", "thingItem", "()V"⟩, 15), (⟨"JudgedDepositsModel", "number", "(II)I"⟩, 15), (⟨"JudgedDepositsModel", "perhaps", "(IIII)I"⟩, 15), (⟨"JudgedDepositsModel", "takes", "(I)Z"⟩, 15), (⟨"JudgedDepositsModel", "twoItem", "(IIIII)V"⟩, 15), (⟨"JudgedDepositsModel", "blowItem", "()V"⟩, 15), (⟨"JudgedDepositsModel", "notCopied", "(IIIII)I"⟩, 15), (⟨"JudgedDepositsModel", "manyHeld", "()I"⟩, 15)]
theorem lw_r4 : ∀ q ∈ lw_privs_4, lw_okq q := List.forall_mem_cons.mpr ⟨lw_p48, List.forall_mem_cons.mpr ⟨lw_p49, List.forall_mem_cons.mpr ⟨lw_p50, List.forall_mem_cons.mpr ⟨lw_p51, List.forall_mem_cons.mpr ⟨lw_p52, List.forall_mem_cons.mpr ⟨lw_p53, List.forall_mem_cons.mpr ⟨lw_p54, List.forall_mem_cons.mpr ⟨lw_p55, List.forall_mem_cons.mpr ⟨lw_p56, List.forall_mem_cons.mpr ⟨lw_p57, List.forall_mem_cons.mpr ⟨lw_p58, List.forall_mem_cons.mpr ⟨lw_p59, List.forall_mem_cons.mpr ⟨lw_p60, fun _ h => absurd h List.not_mem_nil⟩⟩⟩⟩⟩⟩⟩⟩⟩⟩⟩⟩⟩
def lw_privs : List (MethodName × Nat) := lw_privs_1 ++ (lw_privs_2 ++ (lw_privs_3 ++ (lw_privs_4)))
def lw_tbl : List Cond := k2_sels lw_privs ++ tables_1
theorem lw_privs_ok : ∀ q ∈ lw_privs, lw_okq q := by
  show ∀ q ∈ lw_privs_1 ++ (lw_privs_2 ++ (lw_privs_3 ++ (lw_privs_4))), lw_okq q
  exact List.forall_mem_append.mpr ⟨lw_r1, List.forall_mem_append.mpr ⟨lw_r2, List.forall_mem_append.mpr ⟨lw_r3, lw_r4⟩⟩⟩
def RX0 : String := "JudgedDeposits$Estate"
def TX0 : u_T := fun k => match k with
  | 0 => ("JudgedDeposits$Estate", "home", "[I", true)
  | 1 => ("JudgedDeposits$Estate", "list", "[I", true)
  | 2 => ("JudgedDeposits$Estate", "traits", "[I", true)
  | 3 => ("JudgedDeposits$Estate", "spots", "[I", true)
  | 4 => ("JudgedDeposits$Estate", "things", "I", false)
  | 5 => ("JudgedDeposits$Estate", "day", "I", false)
  | _ => ("JudgedDeposits$Estate", "z", "I", false)
def tyX0 : Nat → FieldType := fun k => match k with
  | 0 => .array .int
  | 1 => .array .int
  | 2 => .array .int
  | 3 => .array .int
  | 4 => .int
  | 5 => .int
  | _ => .int
abbrev wsX00 : List Cond := u_ws RX0 TX0 7
theorem nmX0 : ∀ a, a < 7 → ∀ b, b < 7 → a ≠ b → (TX0 a).2.1 ≠ (TX0 b).2.1 := by decide +kernel
theorem tyX0_ok : ∀ k, k < 7 → parseFieldDescriptor (TX0 k).2.2.1 = some (tyX0 k) := by decide +kernel
abbrev cX0_init : ByteArray := prog_2_method_1_code
def yX0_init : MethodName := ⟨RX0, "<init>", "()V"⟩
abbrev cX0_become : ByteArray := prog_2_method_2_code
def yX0_become : MethodName := ⟨RX0, "become", "(LJudgedDeposits$Estate;)V"⟩
abbrev cX0_add : ByteArray := prog_2_method_3_code
def yX0_add : MethodName := ⟨RX0, "add", "(II)I"⟩
abbrev cX0_trait : ByteArray := prog_2_method_4_code
def yX0_trait : MethodName := ⟨RX0, "trait", "(II)I"⟩
abbrev cX0_put : ByteArray := prog_2_method_5_code
def yX0_put : MethodName := ⟨RX0, "put", "(III)V"⟩
abbrev cX0_told : ByteArray := prog_2_method_6_code
def yX0_told : MethodName := ⟨RX0, "told", "(II)I"⟩
abbrev cX0_worth : ByteArray := prog_2_method_7_code
def yX0_worth : MethodName := ⟨RX0, "worth", "(I)I"⟩
abbrev cX0_fair : ByteArray := prog_2_method_8_code
def yX0_fair : MethodName := ⟨RX0, "fair", "(I)I"⟩
abbrev cX0_hurt : ByteArray := prog_2_method_9_code
def yX0_hurt : MethodName := ⟨RX0, "hurt", "(II)I"⟩
abbrev cX0_worse : ByteArray := prog_2_method_10_code
def yX0_worse : MethodName := ⟨RX0, "worse", "(I)I"⟩
abbrev cX0_award : ByteArray := prog_2_method_11_code
def yX0_award : MethodName := ⟨RX0, "award", "(I)I"⟩
abbrev cX0_awardOf : ByteArray := prog_2_method_12_code
def yX0_awardOf : MethodName := ⟨RX0, "awardOf", "(III)I"⟩
abbrev cX0_offersMeet : ByteArray := prog_2_method_13_code
def yX0_offersMeet : MethodName := ⟨RX0, "offersMeet", "()Z"⟩
abbrev cX0_awarded : ByteArray := prog_2_method_14_code
def yX0_awarded : MethodName := ⟨RX0, "awarded", "()I"⟩
abbrev cX0_awardedOf : ByteArray := prog_2_method_15_code
def yX0_awardedOf : MethodName := ⟨RX0, "awardedOf", "(I)I"⟩
abbrev cX0_sum : ByteArray := prog_2_method_16_code
def yX0_sum : MethodName := ⟨RX0, "sum", "(I)I"⟩
abbrev cX0_thingsWith : ByteArray := prog_2_method_17_code
def yX0_thingsWith : MethodName := ⟨RX0, "thingsWith", "(I)I"⟩
abbrev cX0_heldSpots : ByteArray := prog_2_method_18_code
def yX0_heldSpots : MethodName := ⟨RX0, "heldSpots", "()I"⟩
abbrev cX0_draw : ByteArray := prog_2_method_19_code
def yX0_draw : MethodName := ⟨RX0, "draw", "()I"⟩
abbrev cX0_passDays : ByteArray := prog_2_method_20_code
def yX0_passDays : MethodName := ⟨RX0, "passDays", "(I)V"⟩
abbrev cX0_passDay : ByteArray := prog_2_method_21_code
def yX0_passDay : MethodName := ⟨RX0, "passDay", "()V"⟩
abbrev cX0_lower : ByteArray := prog_2_method_22_code
def yX0_lower : MethodName := ⟨RX0, "lower", "(II)V"⟩
def RX1 : String := "JudgedDeposits$Kinds"
def TX1 : u_T := fun k => match k with
  | _ => ("", "", "", false)
def tyX1 : Nat → FieldType := fun k => match k with
  | _ => .int
abbrev wsX10 : List Cond := u_ws RX1 TX1 0
theorem nmX1 : ∀ a, a < 0 → ∀ b, b < 0 → a ≠ b → (TX1 a).2.1 ≠ (TX1 b).2.1 := by decide +kernel
theorem tyX1_ok : ∀ k, k < 0 → parseFieldDescriptor (TX1 k).2.2.1 = some (tyX1 k) := by decide +kernel
abbrev cX1_isOf : ByteArray := prog_3_method_2_code
def yX1_isOf : MethodName := ⟨RX1, "isOf", "(II)Z"⟩
abbrev cX1_lives : ByteArray := prog_3_method_3_code
def yX1_lives : MethodName := ⟨RX1, "lives", "(II)I"⟩
abbrev cX1_worth : ByteArray := prog_3_method_4_code
def yX1_worth : MethodName := ⟨RX1, "worth", "(III)I"⟩
abbrev cX1_shareLeft : ByteArray := prog_3_method_5_code
def yX1_shareLeft : MethodName := ⟨RX1, "shareLeft", "(III)I"⟩
abbrev cX1_fair : ByteArray := prog_3_method_6_code
def yX1_fair : MethodName := ⟨RX1, "fair", "(III)I"⟩
abbrev cX1_hurt : ByteArray := prog_3_method_7_code
def yX1_hurt : MethodName := ⟨RX1, "hurt", "(III)I"⟩
def RX2 : String := "JudgedDeposits$Sheet"
def TX2 : u_T := fun k => match k with
  | 0 => ("JudgedDeposits$Sheet", "numbers", "[I", true)
  | 1 => ("JudgedDeposits$Sheet", "bits", "I", false)
  | _ => ("JudgedDeposits$Sheet", "size", "I", false)
def tyX2 : Nat → FieldType := fun k => match k with
  | 0 => .array .int
  | 1 => .int
  | _ => .int
abbrev wsX20 : List Cond := u_ws RX2 TX2 3
theorem nmX2 : ∀ a, a < 3 → ∀ b, b < 3 → a ≠ b → (TX2 a).2.1 ≠ (TX2 b).2.1 := by decide +kernel
theorem tyX2_ok : ∀ k, k < 3 → parseFieldDescriptor (TX2 k).2.2.1 = some (tyX2 k) := by decide +kernel
abbrev cX2_init : ByteArray := prog_4_method_1_code
def yX2_init : MethodName := ⟨RX2, "<init>", "()V"⟩
abbrev cX2_begin : ByteArray := prog_4_method_2_code
def yX2_begin : MethodName := ⟨RX2, "begin", "(II)V"⟩
abbrev cX2_put : ByteArray := prog_4_method_3_code
def yX2_put : MethodName := ⟨RX2, "put", "(II)V"⟩
abbrev cX2_hasRow : ByteArray := prog_4_method_4_code
def yX2_hasRow : MethodName := ⟨RX2, "hasRow", "(II)Z"⟩
def RX3 : String := "JudgedDeposits$Tape"
def TX3 : u_T := fun k => match k with
  | 0 => ("JudgedDeposits$Tape", "bytes", "[B", true)
  | 1 => ("JudgedDeposits$Tape", "length", "I", false)
  | 2 => ("JudgedDeposits$Tape", "sort", "I", false)
  | 3 => ("JudgedDeposits$Tape", "begin", "I", false)
  | 4 => ("JudgedDeposits$Tape", "end", "I", false)
  | 5 => ("JudgedDeposits$Tape", "number", "I", false)
  | _ => ("JudgedDeposits$Tape", "taken", "I", false)
def tyX3 : Nat → FieldType := fun k => match k with
  | 0 => .array .byte
  | 1 => .int
  | 2 => .int
  | 3 => .int
  | 4 => .int
  | 5 => .int
  | _ => .int
abbrev wsX30 : List Cond := u_ws RX3 TX3 7
theorem nmX3 : ∀ a, a < 7 → ∀ b, b < 7 → a ≠ b → (TX3 a).2.1 ≠ (TX3 b).2.1 := by decide +kernel
theorem tyX3_ok : ∀ k, k < 7 → parseFieldDescriptor (TX3 k).2.2.1 = some (tyX3 k) := by decide +kernel
abbrev cX3_init : ByteArray := prog_5_method_1_code
def yX3_init : MethodName := ⟨RX3, "<init>", "()V"⟩
abbrev cX3_append : ByteArray := prog_5_method_2_code
def yX3_append : MethodName := ⟨RX3, "append", "(B)V"⟩
abbrev cX3_readItems : ByteArray := prog_5_method_3_code
def yX3_readItems : MethodName := ⟨RX3, "readItems", "(LJudgedDeposits$Estate;)I"⟩
abbrev cX3_readItem : ByteArray := prog_5_method_4_code
def yX3_readItem : MethodName := ⟨RX3, "readItem", "(LJudgedDeposits$Estate;)Z"⟩
abbrev cX3_readThing : ByteArray := prog_5_method_5_code
def yX3_readThing : MethodName := ⟨RX3, "readThing", "(LJudgedDeposits$Estate;I)Z"⟩
abbrev cX3_takeHome : ByteArray := prog_5_method_6_code
def yX3_takeHome : MethodName := ⟨RX3, "takeHome", "(LJudgedDeposits$Estate;I)Z"⟩
abbrev cX3_readBlow : ByteArray := prog_5_method_7_code
def yX3_readBlow : MethodName := ⟨RX3, "readBlow", "(LJudgedDeposits$Estate;)Z"⟩
abbrev cX3_takeNumber : ByteArray := prog_5_method_8_code
def yX3_takeNumber : MethodName := ⟨RX3, "takeNumber", "(II)Z"⟩
abbrev cX3_takeWord : ByteArray := prog_5_method_9_code
def yX3_takeWord : MethodName := ⟨RX3, "takeWord", "(Ljava/lang/String;)Z"⟩
abbrev cX3_wordOfKind : ByteArray := prog_5_method_10_code
def yX3_wordOfKind : MethodName := ⟨RX3, "wordOfKind", "(I)Ljava/lang/String;"⟩
abbrev cX3_wordOfTrait : ByteArray := prog_5_method_11_code
def yX3_wordOfTrait : MethodName := ⟨RX3, "wordOfTrait", "(I)Ljava/lang/String;"⟩
abbrev cX3_wordIs : ByteArray := prog_5_method_12_code
def yX3_wordIs : MethodName := ⟨RX3, "wordIs", "(Ljava/lang/String;)Z"⟩
abbrev cX3_nextToken : ByteArray := prog_5_method_13_code
def yX3_nextToken : MethodName := ⟨RX3, "nextToken", "()V"⟩
abbrev cX3_sortOf : ByteArray := prog_5_method_14_code
def yX3_sortOf : MethodName := ⟨RX3, "sortOf", "(B)I"⟩
def RX4 : String := "JudgedDeposits"
def TX4 : u_T := fun k => match k with
  | 0 => ("JudgedDeposits", "estate", "LJudgedDeposits$Estate;", true)
  | 1 => ("JudgedDeposits", "kept", "LJudgedDeposits$Estate;", true)
  | 2 => ("JudgedDeposits", "trial", "LJudgedDeposits$Estate;", true)
  | 3 => ("JudgedDeposits", "tape", "LJudgedDeposits$Tape;", true)
  | 4 => ("JudgedDeposits", "sheets", "[LJudgedDeposits$Sheet;", true)
  | 5 => ("JudgedDeposits", "found", "[I", true)
  | 6 => ("JudgedDeposits", "awards", "[I", true)
  | 7 => ("JudgedDeposits", "worses", "[I", true)
  | _ => ("JudgedDeposits", "imageKept", "Z", false)
def tyX4 : Nat → FieldType := fun k => match k with
  | 0 => .object "JudgedDeposits$Estate"
  | 1 => .object "JudgedDeposits$Estate"
  | 2 => .object "JudgedDeposits$Estate"
  | 3 => .object "JudgedDeposits$Tape"
  | 4 => .array (.object "JudgedDeposits$Sheet")
  | 5 => .array .int
  | 6 => .array .int
  | 7 => .array .int
  | _ => .boolean
abbrev wsX40 : List Cond := u_ws RX4 TX4 9
theorem nmX4 : ∀ a, a < 9 → ∀ b, b < 9 → a ≠ b → (TX4 a).2.1 ≠ (TX4 b).2.1 := by decide +kernel
theorem tyX4_ok : ∀ k, k < 9 → parseFieldDescriptor (TX4 k).2.2.1 = some (tyX4 k) := by decide +kernel
abbrev cX4_init : ByteArray := prog_1_method_1_code
def yX4_init : MethodName := ⟨RX4, "<init>", "()V"⟩
abbrev cX4_set : ByteArray := prog_1_method_2_code
def yX4_set : MethodName := ⟨RX4, "set", "(II)I"⟩
abbrev cX4_home : ByteArray := prog_1_method_3_code
def yX4_home : MethodName := ⟨RX4, "home", "(I)I"⟩
abbrev cX4_blow : ByteArray := prog_1_method_4_code
def yX4_blow : MethodName := ⟨RX4, "blow", "(III)I"⟩
abbrev cX4_listed : ByteArray := prog_1_method_5_code
def yX4_listed : MethodName := ⟨RX4, "listed", "(I)I"⟩
abbrev cX4_thing : ByteArray := prog_1_method_6_code
def yX4_thing : MethodName := ⟨RX4, "thing", "(II)I"⟩
abbrev cX4_of : ByteArray := prog_1_method_7_code
def yX4_of : MethodName := ⟨RX4, "of", "(II)I"⟩
abbrev cX4_change : ByteArray := prog_1_method_8_code
def yX4_change : MethodName := ⟨RX4, "change", "(III)I"⟩
abbrev cX4_hurts : ByteArray := prog_1_method_9_code
def yX4_hurts : MethodName := ⟨RX4, "hurts", "(II)I"⟩
abbrev cX4_go : ByteArray := prog_1_method_10_code
def yX4_go : MethodName := ⟨RX4, "go", "(I)I"⟩
abbrev cX4_now : ByteArray := prog_1_method_11_code
def yX4_now : MethodName := ⟨RX4, "now", "(I)I"⟩
abbrev cX4_ahead : ByteArray := prog_1_method_12_code
def yX4_ahead : MethodName := ⟨RX4, "ahead", "(III)I"⟩
abbrev cX4_judged : ByteArray := prog_1_method_13_code
def yX4_judged : MethodName := ⟨RX4, "judged", "(I)I"⟩
abbrev cX4_worthless : ByteArray := prog_1_method_14_code
def yX4_worthless : MethodName := ⟨RX4, "worthless", "(II)I"⟩
abbrev cX4_owing : ByteArray := prog_1_method_15_code
def yX4_owing : MethodName := ⟨RX4, "owing", "(II)I"⟩
abbrev cX4_forgiven : ByteArray := prog_1_method_16_code
def yX4_forgiven : MethodName := ⟨RX4, "forgiven", "()I"⟩
abbrev cX4_claimFor : ByteArray := prog_1_method_17_code
def yX4_claimFor : MethodName := ⟨RX4, "claimFor", "(II)I"⟩
abbrev cX4_peopleFor : ByteArray := prog_1_method_18_code
def yX4_peopleFor : MethodName := ⟨RX4, "peopleFor", "(I)I"⟩
abbrev cX4_kindFor : ByteArray := prog_1_method_19_code
def yX4_kindFor : MethodName := ⟨RX4, "kindFor", "(II)I"⟩
abbrev cX4_forceFor : ByteArray := prog_1_method_20_code
def yX4_forceFor : MethodName := ⟨RX4, "forceFor", "(III)I"⟩
abbrev cX4_giveUp : ByteArray := prog_1_method_21_code
def yX4_giveUp : MethodName := ⟨RX4, "giveUp", "(II)I"⟩
abbrev cX4_fits : ByteArray := prog_1_method_22_code
def yX4_fits : MethodName := ⟨RX4, "fits", "(II)I"⟩
abbrev cX4_kinds : ByteArray := prog_1_method_23_code
def yX4_kinds : MethodName := ⟨RX4, "kinds", "(II)I"⟩
abbrev cX4_month : ByteArray := prog_1_method_24_code
def yX4_month : MethodName := ⟨RX4, "month", "(I)I"⟩
abbrev cX4_odds : ByteArray := prog_1_method_25_code
def yX4_odds : MethodName := ⟨RX4, "odds", "(IIII)J"⟩
abbrev cX4_seed : ByteArray := prog_1_method_26_code
def yX4_seed : MethodName := ⟨RX4, "seed", "(I)I"⟩
abbrev cX4_feed : ByteArray := prog_1_method_27_code
def yX4_feed : MethodName := ⟨RX4, "feed", "(II)I"⟩
abbrev cX4_wipe : ByteArray := prog_1_method_28_code
def yX4_wipe : MethodName := ⟨RX4, "wipe", "()I"⟩
abbrev cX4_text : ByteArray := prog_1_method_29_code
def yX4_text : MethodName := ⟨RX4, "text", "()I"⟩
abbrev cX4_hold : ByteArray := prog_1_method_30_code
def yX4_hold : MethodName := ⟨RX4, "hold", "(II)I"⟩
abbrev cX4_as : ByteArray := prog_1_method_31_code
def yX4_as : MethodName := ⟨RX4, "as", "(II)I"⟩
abbrev cX4_sheet : ByteArray := prog_1_method_32_code
def yX4_sheet : MethodName := ⟨RX4, "sheet", "(III)I"⟩
abbrev cX4_write : ByteArray := prog_1_method_33_code
def yX4_write : MethodName := ⟨RX4, "write", "(III)I"⟩
abbrev cX4_copy : ByteArray := prog_1_method_34_code
def yX4_copy : MethodName := ⟨RX4, "copy", "(IIIII)I"⟩
abbrev cX4_load : ByteArray := prog_1_method_35_code
def yX4_load : MethodName := ⟨RX4, "load", "(I)I"⟩
abbrev cX4_judge : ByteArray := prog_1_method_36_code
def yX4_judge : MethodName := ⟨RX4, "judge", "(I)I"⟩
abbrev cX4_image : ByteArray := prog_1_method_37_code
def yX4_image : MethodName := ⟨RX4, "image", "()I"⟩
abbrev cX4_undo : ByteArray := prog_1_method_38_code
def yX4_undo : MethodName := ⟨RX4, "undo", "()I"⟩
abbrev cX4_tear : ByteArray := prog_1_method_39_code
def yX4_tear : MethodName := ⟨RX4, "tear", "()I"⟩
abbrev cX4_count : ByteArray := prog_1_method_40_code
def yX4_count : MethodName := ⟨RX4, "count", "(I)I"⟩
abbrev cX4_status : ByteArray := prog_1_method_41_code
def yX4_status : MethodName := ⟨RX4, "status", "(I)I"⟩
abbrev cX4_tell : ByteArray := prog_1_method_42_code
def yX4_tell : MethodName := ⟨RX4, "tell", "(I)I"⟩
abbrev cX4_within : ByteArray := prog_1_method_43_code
def yX4_within : MethodName := ⟨RX4, "within", "(III)Z"⟩
abbrev cX4_isThing : ByteArray := prog_1_method_44_code
def yX4_isThing : MethodName := ⟨RX4, "isThing", "(I)Z"⟩
abbrev cX4_isKind : ByteArray := prog_1_method_45_code
def yX4_isKind : MethodName := ⟨RX4, "isKind", "(I)Z"⟩
abbrev cX4_isPlace : ByteArray := prog_1_method_46_code
def yX4_isPlace : MethodName := ⟨RX4, "isPlace", "(I)Z"⟩
abbrev cX4_isForce : ByteArray := prog_1_method_47_code
def yX4_isForce : MethodName := ⟨RX4, "isForce", "(I)Z"⟩
abbrev cX4_isSpot : ByteArray := prog_1_method_48_code
def yX4_isSpot : MethodName := ⟨RX4, "isSpot", "(I)Z"⟩
abbrev cX4_isSheet : ByteArray := prog_1_method_49_code
def yX4_isSheet : MethodName := ⟨RX4, "isSheet", "(I)Z"⟩
abbrev cX4_lackOf : ByteArray := prog_1_method_50_code
def yX4_lackOf : MethodName := ⟨RX4, "lackOf", "(I)I"⟩
abbrev cX4_lackFor : ByteArray := prog_1_method_51_code
def yX4_lackFor : MethodName := ⟨RX4, "lackFor", "(II)I"⟩
abbrev cX4_blowOf : ByteArray := prog_1_method_52_code
def yX4_blowOf : MethodName := ⟨RX4, "blowOf", "(II)I"⟩
abbrev cX4_thingOfBlow : ByteArray := prog_1_method_53_code
def yX4_thingOfBlow : MethodName := ⟨RX4, "thingOfBlow", "(I)I"⟩
abbrev cX4_forceOfBlow : ByteArray := prog_1_method_54_code
def yX4_forceOfBlow : MethodName := ⟨RX4, "forceOfBlow", "(I)I"⟩
abbrev cX4_awardedBehind : ByteArray := prog_1_method_55_code
def yX4_awardedBehind : MethodName := ⟨RX4, "awardedBehind", "(I)I"⟩
abbrev cX4_leftWithout : ByteArray := prog_1_method_56_code
def yX4_leftWithout : MethodName := ⟨RX4, "leftWithout", "(I)I"⟩
abbrev cX4_foreseeWorses : ByteArray := prog_1_method_57_code
def yX4_foreseeWorses : MethodName := ⟨RX4, "foreseeWorses", "(I)V"⟩
abbrev cX4_ageFits : ByteArray := prog_1_method_58_code
def yX4_ageFits : MethodName := ⟨RX4, "ageFits", "(LJudgedDeposits$Sheet;II)Z"⟩
abbrev cX4_kindFits : ByteArray := prog_1_method_59_code
def yX4_kindFits : MethodName := ⟨RX4, "kindFits", "(LJudgedDeposits$Sheet;II)Z"⟩
abbrev cX4_commonDivisor : ByteArray := prog_1_method_60_code
def yX4_commonDivisor : MethodName := ⟨RX4, "commonDivisor", "(II)I"⟩
abbrev cX4_power : ByteArray := prog_1_method_61_code
def yX4_power : MethodName := ⟨RX4, "power", "(II)J"⟩
def RX5 : String := "JudgedDepositsModel"
def TX5 : u_T := fun k => match k with
  | 0 => ("JudgedDepositsModel", "m", "[I", true)
  | 1 => ("JudgedDepositsModel", "kept", "[I", true)
  | 2 => ("JudgedDepositsModel", "was", "[I", true)
  | 3 => ("JudgedDepositsModel", "isKept", "Z", false)
  | 4 => ("JudgedDepositsModel", "found", "[I", true)
  | 5 => ("JudgedDepositsModel", "bitsOf", "[I", true)
  | 6 => ("JudgedDepositsModel", "sizeOf", "[I", true)
  | 7 => ("JudgedDepositsModel", "cells", "[I", true)
  | 8 => ("JudgedDepositsModel", "tape", "[I", true)
  | 9 => ("JudgedDepositsModel", "taped", "I", false)
  | 10 => ("JudgedDepositsModel", "token", "I", false)
  | 11 => ("JudgedDepositsModel", "begin", "I", false)
  | 12 => ("JudgedDepositsModel", "at", "I", false)
  | 13 => ("JudgedDepositsModel", "value", "I", false)
  | _ => ("JudgedDepositsModel", "bad", "Z", false)
def tyX5 : Nat → FieldType := fun k => match k with
  | 0 => .array .int
  | 1 => .array .int
  | 2 => .array .int
  | 3 => .boolean
  | 4 => .array .int
  | 5 => .array .int
  | 6 => .array .int
  | 7 => .array .int
  | 8 => .array .int
  | 9 => .int
  | 10 => .int
  | 11 => .int
  | 12 => .int
  | 13 => .int
  | _ => .boolean
abbrev wsX50 : List Cond := u_ws RX5 TX5 15
theorem nmX5 : ∀ a, a < 15 → ∀ b, b < 15 → a ≠ b → (TX5 a).2.1 ≠ (TX5 b).2.1 := by decide +kernel
theorem tyX5_ok : ∀ k, k < 15 → parseFieldDescriptor (TX5 k).2.2.1 = some (tyX5 k) := by decide +kernel
abbrev cX5_init : ByteArray := prog_7_method_1_code
def yX5_init : MethodName := ⟨RX5, "<init>", "()V"⟩
abbrev cX5_finds : ByteArray := prog_7_method_2_code
def yX5_finds : MethodName := ⟨RX5, "finds", "(I)I"⟩
abbrev cX5_orNone : ByteArray := prog_7_method_3_code
def yX5_orNone : MethodName := ⟨RX5, "orNone", "(I)I"⟩
abbrev cX5_in : ByteArray := prog_7_method_4_code
def yX5_in : MethodName := ⟨RX5, "in", "(III)Z"⟩
abbrev cX5_held : ByteArray := prog_7_method_5_code
def yX5_held : MethodName := ⟨RX5, "held", "(III)I"⟩
abbrev cX5_copyAll : ByteArray := prog_7_method_6_code
def yX5_copyAll : MethodName := ⟨RX5, "copyAll", "([I[I)V"⟩
abbrev cX5_becomes : ByteArray := prog_7_method_7_code
def yX5_becomes : MethodName := ⟨RX5, "becomes", "(II)I"⟩
abbrev cX5_isThing : ByteArray := prog_7_method_8_code
def yX5_isThing : MethodName := ⟨RX5, "isThing", "(I)Z"⟩
abbrev cX5_isPlace : ByteArray := prog_7_method_9_code
def yX5_isPlace : MethodName := ⟨RX5, "isPlace", "(I)Z"⟩
abbrev cX5_it : ByteArray := prog_7_method_10_code
def yX5_it : MethodName := ⟨RX5, "it", "(II)I"⟩
abbrev cX5_put : ByteArray := prog_7_method_11_code
def yX5_put : MethodName := ⟨RX5, "put", "(III)V"⟩
abbrev cX5_bits : ByteArray := prog_7_method_12_code
def yX5_bits : MethodName := ⟨RX5, "bits", "(I)I"⟩
abbrev cX5_lives : ByteArray := prog_7_method_13_code
def yX5_lives : MethodName := ⟨RX5, "lives", "(I)I"⟩
abbrev cX5_worth : ByteArray := prog_7_method_14_code
def yX5_worth : MethodName := ⟨RX5, "worth", "(I)I"⟩
abbrev cX5_fair : ByteArray := prog_7_method_15_code
def yX5_fair : MethodName := ⟨RX5, "fair", "(I)I"⟩
abbrev cX5_hurtsBy : ByteArray := prog_7_method_16_code
def yX5_hurtsBy : MethodName := ⟨RX5, "hurtsBy", "(II)I"⟩
abbrev cX5_worse : ByteArray := prog_7_method_17_code
def yX5_worse : MethodName := ⟨RX5, "worse", "(I)I"⟩
abbrev cX5_award : ByteArray := prog_7_method_18_code
def yX5_award : MethodName := ⟨RX5, "award", "(I)I"⟩
abbrev cX5_doMeet : ByteArray := prog_7_method_19_code
def yX5_doMeet : MethodName := ⟨RX5, "doMeet", "()Z"⟩
abbrev cX5_awarded : ByteArray := prog_7_method_20_code
def yX5_awarded : MethodName := ⟨RX5, "awarded", "()I"⟩
abbrev cX5_mostOfHome : ByteArray := prog_7_method_21_code
def yX5_mostOfHome : MethodName := ⟨RX5, "mostOfHome", "(I)I"⟩
abbrev cX5_set : ByteArray := prog_7_method_22_code
def yX5_set : MethodName := ⟨RX5, "set", "(II)I"⟩
abbrev cX5_home : ByteArray := prog_7_method_23_code
def yX5_home : MethodName := ⟨RX5, "home", "(I)I"⟩
abbrev cX5_blow : ByteArray := prog_7_method_24_code
def yX5_blow : MethodName := ⟨RX5, "blow", "(III)I"⟩
abbrev cX5_listed : ByteArray := prog_7_method_25_code
def yX5_listed : MethodName := ⟨RX5, "listed", "(I)I"⟩
abbrev cX5_comes : ByteArray := prog_7_method_26_code
def yX5_comes : MethodName := ⟨RX5, "comes", "(II)I"⟩
abbrev cX5_thing : ByteArray := prog_7_method_27_code
def yX5_thing : MethodName := ⟨RX5, "thing", "(II)I"⟩
abbrev cX5_of : ByteArray := prog_7_method_28_code
def yX5_of : MethodName := ⟨RX5, "of", "(II)I"⟩
abbrev cX5_mostOf : ByteArray := prog_7_method_29_code
def yX5_mostOf : MethodName := ⟨RX5, "mostOf", "(I)I"⟩
abbrev cX5_change : ByteArray := prog_7_method_30_code
def yX5_change : MethodName := ⟨RX5, "change", "(III)I"⟩
abbrev cX5_hurts : ByteArray := prog_7_method_31_code
def yX5_hurts : MethodName := ⟨RX5, "hurts", "(II)I"⟩
abbrev cX5_goes : ByteArray := prog_7_method_32_code
def yX5_goes : MethodName := ⟨RX5, "goes", "()V"⟩
abbrev cX5_goesFor : ByteArray := prog_7_method_33_code
def yX5_goesFor : MethodName := ⟨RX5, "goesFor", "(I)V"⟩
abbrev cX5_go : ByteArray := prog_7_method_34_code
def yX5_go : MethodName := ⟨RX5, "go", "(I)I"⟩
abbrev cX5_claims : ByteArray := prog_7_method_35_code
def yX5_claims : MethodName := ⟨RX5, "claims", "()I"⟩
abbrev cX5_worseOnes : ByteArray := prog_7_method_36_code
def yX5_worseOnes : MethodName := ⟨RX5, "worseOnes", "()I"⟩
abbrev cX5_awardedOnes : ByteArray := prog_7_method_37_code
def yX5_awardedOnes : MethodName := ⟨RX5, "awardedOnes", "()I"⟩
abbrev cX5_allWorth : ByteArray := prog_7_method_38_code
def yX5_allWorth : MethodName := ⟨RX5, "allWorth", "()I"⟩
abbrev cX5_now : ByteArray := prog_7_method_39_code
def yX5_now : MethodName := ⟨RX5, "now", "(I)I"⟩
abbrev cX5_thinks : ByteArray := prog_7_method_40_code
def yX5_thinks : MethodName := ⟨RX5, "thinks", "()V"⟩
abbrev cX5_putsBack : ByteArray := prog_7_method_41_code
def yX5_putsBack : MethodName := ⟨RX5, "putsBack", "()V"⟩
abbrev cX5_ahead : ByteArray := prog_7_method_42_code
def yX5_ahead : MethodName := ⟨RX5, "ahead", "(III)I"⟩
abbrev cX5_awardedOn : ByteArray := prog_7_method_43_code
def yX5_awardedOn : MethodName := ⟨RX5, "awardedOn", "(I)I"⟩
abbrev cX5_judged : ByteArray := prog_7_method_44_code
def yX5_judged : MethodName := ⟨RX5, "judged", "(I)I"⟩
abbrev cX5_worthless : ByteArray := prog_7_method_45_code
def yX5_worthless : MethodName := ⟨RX5, "worthless", "(II)I"⟩
abbrev cX5_owing : ByteArray := prog_7_method_46_code
def yX5_owing : MethodName := ⟨RX5, "owing", "(II)I"⟩
abbrev cX5_forgiven : ByteArray := prog_7_method_47_code
def yX5_forgiven : MethodName := ⟨RX5, "forgiven", "()I"⟩
abbrev cX5_claimFor : ByteArray := prog_7_method_48_code
def yX5_claimFor : MethodName := ⟨RX5, "claimFor", "(II)I"⟩
abbrev cX5_leastBy : ByteArray := prog_7_method_49_code
def yX5_leastBy : MethodName := ⟨RX5, "leastBy", "(IIII)I"⟩
abbrev cX5_peopleFor : ByteArray := prog_7_method_50_code
def yX5_peopleFor : MethodName := ⟨RX5, "peopleFor", "(I)I"⟩
abbrev cX5_kindFor : ByteArray := prog_7_method_51_code
def yX5_kindFor : MethodName := ⟨RX5, "kindFor", "(II)I"⟩
abbrev cX5_forceFor : ByteArray := prog_7_method_52_code
def yX5_forceFor : MethodName := ⟨RX5, "forceFor", "(III)I"⟩
abbrev cX5_isLeft : ByteArray := prog_7_method_53_code
def yX5_isLeft : MethodName := ⟨RX5, "isLeft", "(III)Z"⟩
abbrev cX5_giveUp : ByteArray := prog_7_method_54_code
def yX5_giveUp : MethodName := ⟨RX5, "giveUp", "(II)I"⟩
abbrev cX5_isSheet : ByteArray := prog_7_method_55_code
def yX5_isSheet : MethodName := ⟨RX5, "isSheet", "(I)Z"⟩
abbrev cX5_notThere : ByteArray := prog_7_method_56_code
def yX5_notThere : MethodName := ⟨RX5, "notThere", "(I)I"⟩
abbrev cX5_notAsked : ByteArray := prog_7_method_57_code
def yX5_notAsked : MethodName := ⟨RX5, "notAsked", "(II)I"⟩
abbrev cX5_isTold : ByteArray := prog_7_method_58_code
def yX5_isTold : MethodName := ⟨RX5, "isTold", "(II)Z"⟩
abbrev cX5_fits : ByteArray := prog_7_method_59_code
def yX5_fits : MethodName := ⟨RX5, "fits", "(II)I"⟩
abbrev cX5_kinds : ByteArray := prog_7_method_60_code
def yX5_kinds : MethodName := ⟨RX5, "kinds", "(II)I"⟩
abbrev cX5_draw : ByteArray := prog_7_method_61_code
def yX5_draw : MethodName := ⟨RX5, "draw", "()I"⟩
abbrev cX5_month : ByteArray := prog_7_method_62_code
def yX5_month : MethodName := ⟨RX5, "month", "(I)I"⟩
abbrev cX5_odds : ByteArray := prog_7_method_63_code
def yX5_odds : MethodName := ⟨RX5, "odds", "(IIII)J"⟩
abbrev cX5_seed : ByteArray := prog_7_method_64_code
def yX5_seed : MethodName := ⟨RX5, "seed", "(I)I"⟩
abbrev cX5_feed : ByteArray := prog_7_method_65_code
def yX5_feed : MethodName := ⟨RX5, "feed", "(II)I"⟩
abbrev cX5_wipe : ByteArray := prog_7_method_66_code
def yX5_wipe : MethodName := ⟨RX5, "wipe", "()I"⟩
abbrev cX5_isByte : ByteArray := prog_7_method_67_code
def yX5_isByte : MethodName := ⟨RX5, "isByte", "(III)Z"⟩
abbrev cX5_isName : ByteArray := prog_7_method_68_code
def yX5_isName : MethodName := ⟨RX5, "isName", "(II)Z"⟩
abbrev cX5_wordHere : ByteArray := prog_7_method_69_code
def yX5_wordHere : MethodName := ⟨RX5, "wordHere", "()I"⟩
abbrev cX5_reads : ByteArray := prog_7_method_70_code
def yX5_reads : MethodName := ⟨RX5, "reads", "()V"⟩
abbrev cX5_takes : ByteArray := prog_7_method_71_code
def yX5_takes : MethodName := ⟨RX5, "takes", "(I)Z"⟩
abbrev cX5_number : ByteArray := prog_7_method_72_code
def yX5_number : MethodName := ⟨RX5, "number", "(II)I"⟩
abbrev cX5_perhaps : ByteArray := prog_7_method_73_code
def yX5_perhaps : MethodName := ⟨RX5, "perhaps", "(IIII)I"⟩
abbrev cX5_thingItem : ByteArray := prog_7_method_74_code
def yX5_thingItem : MethodName := ⟨RX5, "thingItem", "()V"⟩
abbrev cX5_twoItem : ByteArray := prog_7_method_75_code
def yX5_twoItem : MethodName := ⟨RX5, "twoItem", "(IIIII)V"⟩
abbrev cX5_blowItem : ByteArray := prog_7_method_76_code
def yX5_blowItem : MethodName := ⟨RX5, "blowItem", "()V"⟩
abbrev cX5_item : ByteArray := prog_7_method_77_code
def yX5_item : MethodName := ⟨RX5, "item", "()V"⟩
abbrev cX5_text : ByteArray := prog_7_method_78_code
def yX5_text : MethodName := ⟨RX5, "text", "()I"⟩
abbrev cX5_hold : ByteArray := prog_7_method_79_code
def yX5_hold : MethodName := ⟨RX5, "hold", "(II)I"⟩
abbrev cX5_isUnder : ByteArray := prog_7_method_80_code
def yX5_isUnder : MethodName := ⟨RX5, "isUnder", "(II)Z"⟩
abbrev cX5_as : ByteArray := prog_7_method_81_code
def yX5_as : MethodName := ⟨RX5, "as", "(II)I"⟩
abbrev cX5_sheet : ByteArray := prog_7_method_82_code
def yX5_sheet : MethodName := ⟨RX5, "sheet", "(III)I"⟩
abbrev cX5_write : ByteArray := prog_7_method_83_code
def yX5_write : MethodName := ⟨RX5, "write", "(III)I"⟩
abbrev cX5_notCopied : ByteArray := prog_7_method_84_code
def yX5_notCopied : MethodName := ⟨RX5, "notCopied", "(IIIII)I"⟩
abbrev cX5_copy : ByteArray := prog_7_method_85_code
def yX5_copy : MethodName := ⟨RX5, "copy", "(IIIII)I"⟩
abbrev cX5_load : ByteArray := prog_7_method_86_code
def yX5_load : MethodName := ⟨RX5, "load", "(I)I"⟩
abbrev cX5_judge : ByteArray := prog_7_method_87_code
def yX5_judge : MethodName := ⟨RX5, "judge", "(I)I"⟩
abbrev cX5_image : ByteArray := prog_7_method_88_code
def yX5_image : MethodName := ⟨RX5, "image", "()I"⟩
abbrev cX5_undo : ByteArray := prog_7_method_89_code
def yX5_undo : MethodName := ⟨RX5, "undo", "()I"⟩
abbrev cX5_tear : ByteArray := prog_7_method_90_code
def yX5_tear : MethodName := ⟨RX5, "tear", "()I"⟩
abbrev cX5_manyHeld : ByteArray := prog_7_method_91_code
def yX5_manyHeld : MethodName := ⟨RX5, "manyHeld", "()I"⟩
abbrev cX5_count : ByteArray := prog_7_method_92_code
def yX5_count : MethodName := ⟨RX5, "count", "(I)I"⟩
abbrev cX5_status : ByteArray := prog_7_method_93_code
def yX5_status : MethodName := ⟨RX5, "status", "(I)I"⟩
def RJx145de : String := "java/io/Serializable"
def TJx145de : u_T := fun k => match k with
  | _ => ("", "", "", false)
def tyJx145de : Nat → FieldType := fun k => match k with
  | _ => .int
abbrev wsJx145de0 : List Cond := u_ws RJx145de TJx145de 0
theorem nmJx145de : ∀ a, a < 0 → ∀ b, b < 0 → a ≠ b → (TJx145de a).2.1 ≠ (TJx145de b).2.1 := by decide +kernel
theorem tyJx145de_ok : ∀ k, k < 0 → parseFieldDescriptor (TJx145de k).2.2.1 = some (tyJx145de k) := by decide +kernel
def RJx9f9b0 : String := "java/lang/CharSequence"
def TJx9f9b0 : u_T := fun k => match k with
  | _ => ("", "", "", false)
def tyJx9f9b0 : Nat → FieldType := fun k => match k with
  | _ => .int
abbrev wsJx9f9b00 : List Cond := u_ws RJx9f9b0 TJx9f9b0 0
theorem nmJx9f9b0 : ∀ a, a < 0 → ∀ b, b < 0 → a ≠ b → (TJx9f9b0 a).2.1 ≠ (TJx9f9b0 b).2.1 := by decide +kernel
theorem tyJx9f9b0_ok : ∀ k, k < 0 → parseFieldDescriptor (TJx9f9b0 k).2.2.1 = some (tyJx9f9b0 k) := by decide +kernel
def RJx8e188 : String := "java/lang/Cloneable"
def TJx8e188 : u_T := fun k => match k with
  | _ => ("", "", "", false)
def tyJx8e188 : Nat → FieldType := fun k => match k with
  | _ => .int
abbrev wsJx8e1880 : List Cond := u_ws RJx8e188 TJx8e188 0
theorem nmJx8e188 : ∀ a, a < 0 → ∀ b, b < 0 → a ≠ b → (TJx8e188 a).2.1 ≠ (TJx8e188 b).2.1 := by decide +kernel
theorem tyJx8e188_ok : ∀ k, k < 0 → parseFieldDescriptor (TJx8e188 k).2.2.1 = some (tyJx8e188 k) := by decide +kernel
def RJxb160c : String := "java/lang/Comparable"
def TJxb160c : u_T := fun k => match k with
  | _ => ("", "", "", false)
def tyJxb160c : Nat → FieldType := fun k => match k with
  | _ => .int
abbrev wsJxb160c0 : List Cond := u_ws RJxb160c TJxb160c 0
theorem nmJxb160c : ∀ a, a < 0 → ∀ b, b < 0 → a ≠ b → (TJxb160c a).2.1 ≠ (TJxb160c b).2.1 := by decide +kernel
theorem tyJxb160c_ok : ∀ k, k < 0 → parseFieldDescriptor (TJxb160c k).2.2.1 = some (tyJxb160c k) := by decide +kernel
def RJ6 : String := "java/lang/Integer"
def TJ6 : u_T := fun k => match k with
  | _ => ("", "", "", false)
def tyJ6 : Nat → FieldType := fun k => match k with
  | _ => .int
abbrev wsJ60 : List Cond := u_ws RJ6 TJ6 0
theorem nmJ6 : ∀ a, a < 0 → ∀ b, b < 0 → a ≠ b → (TJ6 a).2.1 ≠ (TJ6 b).2.1 := by decide +kernel
theorem tyJ6_ok : ∀ k, k < 0 → parseFieldDescriptor (TJ6 k).2.2.1 = some (tyJ6 k) := by decide +kernel
abbrev cJ6_bitCount_0f7a4 : ByteArray := prog_9_method_49_code
def yJ6_bitCount_0f7a4 : MethodName := ⟨RJ6, "bitCount", "(I)I"⟩
def RJ9 : String := "java/lang/Math"
def TJ9 : u_T := fun k => match k with
  | _ => ("", "", "", false)
def tyJ9 : Nat → FieldType := fun k => match k with
  | _ => .int
abbrev wsJ90 : List Cond := u_ws RJ9 TJ9 0
theorem nmJ9 : ∀ a, a < 0 → ∀ b, b < 0 → a ≠ b → (TJ9 a).2.1 ≠ (TJ9 b).2.1 := by decide +kernel
theorem tyJ9_ok : ∀ k, k < 0 → parseFieldDescriptor (TJ9 k).2.2.1 = some (tyJ9 k) := by decide +kernel
abbrev cJ9_max_7cf53 : ByteArray := prog_10_method_65_code
def yJ9_max_7cf53 : MethodName := ⟨RJ9, "max", "(II)I"⟩
abbrev cJ9_min_7cf53 : ByteArray := prog_10_method_69_code
def yJ9_min_7cf53 : MethodName := ⟨RJ9, "min", "(II)I"⟩
def RJ0 : String := "java/lang/String"
def TJ0 : u_T := fun k => match k with
  | _ => ("", "", "", false)
def tyJ0 : Nat → FieldType := fun k => match k with
  | _ => .int
abbrev wsJ00 : List Cond := u_ws RJ0 TJ0 0
theorem nmJ0 : ∀ a, a < 0 → ∀ b, b < 0 → a ≠ b → (TJ0 a).2.1 ≠ (TJ0 b).2.1 := by decide +kernel
theorem tyJ0_ok : ∀ k, k < 0 → parseFieldDescriptor (TJ0 k).2.2.1 = some (tyJ0 k) := by decide +kernel
abbrev cJ0_length_8abf5 : ByteArray := prog_11_method_54_code
def yJ0_length_8abf5 : MethodName := ⟨RJ0, "length", "()I"⟩
abbrev cJ0_charAt_5068e : ByteArray := prog_11_method_56_code
def yJ0_charAt_5068e : MethodName := ⟨RJ0, "charAt", "(I)C"⟩
abbrev cJ0_coder_7d493 : ByteArray := prog_11_method_152_code
def yJ0_coder_7d493 : MethodName := ⟨RJ0, "coder", "()B"⟩
abbrev cJ0_isLatin1_aae02 : ByteArray := prog_11_method_154_code
def yJ0_isLatin1_aae02 : MethodName := ⟨RJ0, "isLatin1", "()Z"⟩
abbrev cJ0_checkIndex_df160 : ByteArray := prog_11_method_155_code
def yJ0_checkIndex_df160 : MethodName := ⟨RJ0, "checkIndex", "(II)V"⟩
def RJ1 : String := "java/lang/StringLatin1"
def TJ1 : u_T := fun k => match k with
  | _ => ("", "", "", false)
def tyJ1 : Nat → FieldType := fun k => match k with
  | _ => .int
abbrev wsJ10 : List Cond := u_ws RJ1 TJ1 0
theorem nmJ1 : ∀ a, a < 0 → ∀ b, b < 0 → a ≠ b → (TJ1 a).2.1 ≠ (TJ1 b).2.1 := by decide +kernel
theorem tyJ1_ok : ∀ k, k < 0 → parseFieldDescriptor (TJ1 k).2.2.1 = some (tyJ1 k) := by decide +kernel
abbrev cJ1_charAt_3b067 : ByteArray := prog_12_method_2_code
def yJ1_charAt_3b067 : MethodName := ⟨RJ1, "charAt", "([BI)C"⟩
def RJ2 : String := "java/lang/StringUTF16"
def TJ2 : u_T := fun k => match k with
  | _ => ("", "", "", false)
def tyJ2 : Nat → FieldType := fun k => match k with
  | _ => .int
abbrev wsJ20 : List Cond := u_ws RJ2 TJ2 0
theorem nmJ2 : ∀ a, a < 0 → ∀ b, b < 0 → a ≠ b → (TJ2 a).2.1 ≠ (TJ2 b).2.1 := by decide +kernel
theorem tyJ2_ok : ∀ k, k < 0 → parseFieldDescriptor (TJ2 k).2.2.1 = some (tyJ2 k) := by decide +kernel
abbrev cJ2_getChar_3b067 : ByteArray := prog_13_method_5_code
def yJ2_getChar_3b067 : MethodName := ⟨RJ2, "getChar", "([BI)C"⟩
abbrev cJ2_length_9d52b : ByteArray := prog_13_method_6_code
def yJ2_length_9d52b : MethodName := ⟨RJ2, "length", "([B)I"⟩
abbrev cJ2_charAt_3b067 : ByteArray := prog_13_method_83_code
def yJ2_charAt_3b067 : MethodName := ⟨RJ2, "charAt", "([BI)C"⟩
abbrev cJ2_checkIndex_2214a : ByteArray := prog_13_method_91_code
def yJ2_checkIndex_2214a : MethodName := ⟨RJ2, "checkIndex", "(I[B)V"⟩
def RJ10 : String := "java/lang/System"
def TJ10 : u_T := fun k => match k with
  | _ => ("", "", "", false)
def tyJ10 : Nat → FieldType := fun k => match k with
  | _ => .int
abbrev wsJ100 : List Cond := u_ws RJ10 TJ10 0
theorem nmJ10 : ∀ a, a < 0 → ∀ b, b < 0 → a ≠ b → (TJ10 a).2.1 ≠ (TJ10 b).2.1 := by decide +kernel
theorem tyJ10_ok : ∀ k, k < 0 → parseFieldDescriptor (TJ10 k).2.2.1 = some (tyJ10 k) := by decide +kernel
def RJxfd54e : String := "java/lang/constant/Constable"
def TJxfd54e : u_T := fun k => match k with
  | _ => ("", "", "", false)
def tyJxfd54e : Nat → FieldType := fun k => match k with
  | _ => .int
abbrev wsJxfd54e0 : List Cond := u_ws RJxfd54e TJxfd54e 0
theorem nmJxfd54e : ∀ a, a < 0 → ∀ b, b < 0 → a ≠ b → (TJxfd54e a).2.1 ≠ (TJxfd54e b).2.1 := by decide +kernel
theorem tyJxfd54e_ok : ∀ k, k < 0 → parseFieldDescriptor (TJxfd54e k).2.2.1 = some (tyJxfd54e k) := by decide +kernel
def RJx3cf43 : String := "java/lang/constant/ConstantDesc"
def TJx3cf43 : u_T := fun k => match k with
  | _ => ("", "", "", false)
def tyJx3cf43 : Nat → FieldType := fun k => match k with
  | _ => .int
abbrev wsJx3cf430 : List Cond := u_ws RJx3cf43 TJx3cf43 0
theorem nmJx3cf43 : ∀ a, a < 0 → ∀ b, b < 0 → a ≠ b → (TJx3cf43 a).2.1 ≠ (TJx3cf43 b).2.1 := by decide +kernel
theorem tyJx3cf43_ok : ∀ k, k < 0 → parseFieldDescriptor (TJx3cf43 k).2.2.1 = some (tyJx3cf43 k) := by decide +kernel
def RJ7 : String := "java/util/Arrays"
def TJ7 : u_T := fun k => match k with
  | _ => ("", "", "", false)
def tyJ7 : Nat → FieldType := fun k => match k with
  | _ => .int
abbrev wsJ70 : List Cond := u_ws RJ7 TJ7 0
theorem nmJ7 : ∀ a, a < 0 → ∀ b, b < 0 → a ≠ b → (TJ7 a).2.1 ≠ (TJ7 b).2.1 := by decide +kernel
theorem tyJ7_ok : ∀ k, k < 0 → parseFieldDescriptor (TJ7 k).2.2.1 = some (tyJ7 k) := by decide +kernel
abbrev cJ7_fill_53178 : ByteArray := prog_15_method_103_code
def yJ7_fill_53178 : MethodName := ⟨RJ7, "fill", "([II)V"⟩
def RJ3 : String := "jdk/internal/util/Preconditions"
def TJ3 : u_T := fun k => match k with
  | _ => ("", "", "", false)
def tyJ3 : Nat → FieldType := fun k => match k with
  | _ => .int
abbrev wsJ30 : List Cond := u_ws RJ3 TJ3 0
theorem nmJ3 : ∀ a, a < 0 → ∀ b, b < 0 → a ≠ b → (TJ3 a).2.1 ≠ (TJ3 b).2.1 := by decide +kernel
theorem tyJ3_ok : ∀ k, k < 0 → parseFieldDescriptor (TJ3 k).2.2.1 = some (tyJ3 k) := by decide +kernel
abbrev cJ3_checkIndex_8e157 : ByteArray := prog_16_method_11_code
def yJ3_checkIndex_8e157 : MethodName := ⟨RJ3, "checkIndex", "(IILjava/util/function/BiFunction;)I"⟩
def RL : String := "JudgedDepositsLaw"
abbrev cL_law : ByteArray := code
def yL_law : MethodName := ⟨RL, "law", "([I)Z"⟩
abbrev vwCl : List vw_C := [(RX0, TX0, 7), (RX2, TX2, 3), (RX3, TX3, 7), (RX4, TX4, 9), (RX5, TX5, 15)]
end
section
-- OWN KIT: one list of words for all contracts; the environment (statics, strings, nest links); entries and calls of a uniform shape
def jGW : List Cond := lw_tbl.filter goodWord
theorem jq (i : Nat) {w : Cond} (h : lw_tbl[i]? = some w) (hg : goodWord w = true) : w ∈ jGW := List.mem_filter.mpr ⟨List.mem_of_getElem? h, hg⟩
theorem jgood {c' : Cond} (h : c' ∈ jGW) : GoodIn jGW (c' :: jGW) := by
  intro w hw
  rcases List.mem_cons.mp hw with rfl | hw
  · exact ⟨h, good_of_word (List.mem_filter.mp h).2⟩
  · exact ⟨hw, good_of_word (List.mem_filter.mp hw).2⟩
/-- the words that nest mates need -/
def jNk : Cond → Bool
  | .fieldLinkNest .. => true
  | .methodLinkNest .. => true
  | _ => false
theorem jNw_warm {w : Cond} (hn : jNk w = true) {s U : State} (hW : s.WarmedH U.vm) (h : va_Nw w s) : va_Nw w U := by
  cases w <;> first | (exact absurd hn (by decide)) | exact va_Nw.warmF hW h | exact va_Nw.warmM hW h | (simp [jNk] at hn)
theorem jNw_same {w : Cond} (hn : jNk w = true) {u U : State} (hv : u.vm = U.vm) (h : va_Nw w u) : va_Nw w U := by
  cases w <;> first | exact va_tabs rfl hv h | (simp [jNk] at hn)
abbrev JG : Type := (Nat → Nat) × (Nat → Nat) × (Nat → Nat) × Option Nat
def jNames : List Int32 := [116, 104, 105, 110, 103, 0, 0, 99, 97, 114, 112, 101, 116, 0, 119, 97, 108, 108, 0, 0, 0, 112, 97, 105, 110, 116, 0, 0, 109, 117, 114, 97, 108, 0, 0, 108, 97, 109, 112, 0, 0, 0, 114, 117, 103, 0, 0, 0, 0, 97, 103, 101, 100, 0, 0, 0, 105, 115, 0, 0, 0, 0, 0, 99, 108, 97, 105, 109, 0, 0, 104, 111, 109, 101, 0, 0, 0, 98, 108, 111, 119, 0, 0, 0, 111, 102, 102, 101, 114, 0, 0, 115, 105, 108, 101, 110, 116, 0]
def jStat : List (String × String × List Int32) := [("JudgedDeposits", "HOME_AT_FIRST", [1000, 2, 1, 1, 0, 0, 0]), ("JudgedDeposits", "HOME_LEAST", [0, 1, 0, 0, 0, 0, 0]), ("JudgedDeposits", "HOME_MOST", [9999, 9, 1, 1, 2, 9999, 9999]), ("JudgedDeposits", "TRAIT_MOST", [6, 999, 9999, 99, 99, 9999, 999]), ("JudgedDeposits", "KIND_ABOVE", [-1, 0, 0, 2, 3, 0, 1]), ("JudgedDepositsModel", "NAMES", jNames)]
/-- the constant texts of the tape: the pool's entry, the text -/
def jStr : List (Nat × String) := [(112, "carpet"), (114, "wall"), (116, "paint"), (118, "mural"), (120, "lamp"), (122, "rug"), (124, "thing"), (126, "aged"), (128, "is"), (130, "claim"), (132, ""), (53, "home"), (61, "offer"), (63, "silent"), (65, "blow")]
def jByt : List (List Int32) := [[99, 97, 114, 112, 101, 116], [119, 97, 108, 108], [112, 97, 105, 110, 116], [109, 117, 114, 97, 108], [108, 97, 109, 112], [114, 117, 103], [116, 104, 105, 110, 103], [97, 103, 101, 100], [105, 115], [99, 108, 97, 105, 109], [], [104, 111, 109, 101], [111, 102, 102, 101, 114], [115, 105, 108, 101, 110, 116], [98, 108, 111, 119]]
def jLen : List Nat := [6, 4, 5, 5, 4, 3, 5, 4, 2, 5, 0, 4, 5, 6, 4]
def jZ (G : JG) (A : Nat → Prop) (U : State) (H : Heap) : Prop :=
  (∀ (k : Nat) (q : String × String × List Int32), jStat[k]? = some q → va_Z q.1 q.2.1 "[I" (.ref (G.1 k)) A U H ∧ va_T .int (G.1 k) q.2.2.length (fun j => .int (q.2.2.getD j 0)) A U H) ∧
  va_Z "java/lang/String" "COMPACT_STRINGS" "Z" (.int 1) A U H ∧
  vk_S 15 jLen jByt G.2.1 G.2.2.1 A U H ∧
  (∀ (k : Nat) (q : Nat × String), jStr[k]? = some q → vk_R "JudgedDeposits$Tape" q.1 q.2 (G.2.1 k) U) ∧
  (∀ w ∈ lw_tbl, jNk w = true → va_Nw w U) ∧
  va_Z "jdk/internal/util/Preconditions" "SIOOBE_FORMATTER" "Ljava/util/function/BiFunction;" (va_rf G.2.2.2) A U H
theorem jZ.call {G : JG} {A A' : Nat → Prop} {s U : State} {H : Heap} {locs : List Loc} (h : jZ G A s s.heap) (hS : va_S A s.heap H locs) (hAA : ∀ q, A' q → A q) (hW : s.WarmedH U.vm) (hU : U.heap = H) : jZ G A' U U.heap := by
  obtain ⟨h1, h2, h3, h4, h5, h6⟩ := h
  have kq := hS.2.1
  rw [hU]
  exact ⟨fun k q hk => ⟨va_Z.moved hW.alike (((h1 k q hk).1.kept kq).narrow hAA), va_T.moved hW.alike (((h1 k q hk).2.kept kq).narrow hAA)⟩, va_Z.moved hW.alike ((h2.kept kq).narrow hAA), vk_S.moved hW.alike ((h3.kept kq).narrow hAA), fun k q hk => vk_R.warm hW (h4 k q hk), fun w hw hn => jNw_warm hn hW (h5 w hw hn), va_Z.moved hW.alike ((h6.kept kq).narrow hAA)⟩
theorem jZ.blind {G : JG} {A : Nat → Prop} {U : State} (h : jZ G A U U.heap) (g : JFrame) (mk : MethodId) (a : Array Value) : jZ G A (U.calling g mk a) (U.calling g mk a).heap := by
  obtain ⟨h1, h2, h3, h4, h5, h6⟩ := h
  exact ⟨fun k q hk => ⟨va_Z.moved (u := U) (U := U.calling g mk a) (Vm.Alike.refl U.vm) (h1 k q hk).1, va_T.moved (u := U) (U := U.calling g mk a) (Vm.Alike.refl U.vm) (h1 k q hk).2⟩, va_Z.moved (u := U) (U := U.calling g mk a) (Vm.Alike.refl U.vm) h2, vk_S.moved (u := U) (U := U.calling g mk a) (Vm.Alike.refl U.vm) h3, fun k q hk => vk_R.same rfl (h4 k q hk), fun w hw hn => jNw_same (u := U) (U := U.calling g mk a) hn rfl (h5 w hw hn), va_Z.moved (u := U) (U := U.calling g mk a) (Vm.Alike.refl U.vm) h6⟩
-- contracts
def jPre (D : va_G) (tys : List (ClassId × FieldType)) (G : JG) (av : List Value) (W0 : va_W) (sz : Nat) : Array Value → State → Prop :=
  va_Pc av (fun U => U.heap.size = sz ∧ va_P D vwCl W0 U.heap ∧ va_K D vwCl tys U ∧ va_D (fun _ => True) W0 ∧ jZ G (va_A W0 sz) U U.heap)
def jEnd (D : va_G) (tys : List (ClassId × FieldType)) (W1 : va_W) (A : Nat → Prop) (t : State) : Prop := va_P D vwCl W1 t.heap ∧ va_K D vwCl tys t ∧ va_D A W1
abbrev jQi (D : va_G) (tys : List (ClassId × FieldType)) (V : Int32) (W1 : va_W) (A : Nat → Prop) : Array Value → State → Outcome → State → Prop := va_Qi (fun (r : Int32) (_ : Unit) => r = V) (fun _ t => jEnd D tys W1 A t) A
abbrev jQl (D : va_G) (tys : List (ClassId × FieldType)) (V : Int64) (W1 : va_W) (A : Nat → Prop) : Array Value → State → Outcome → State → Prop := va_Ql (fun (r : Int64) (_ : Unit) => r = V) (fun _ t => jEnd D tys W1 A t) A
abbrev jQv (D : va_G) (tys : List (ClassId × FieldType)) (W1 : va_W) (A : Nat → Prop) : Array Value → State → Outcome → State → Prop := va_Qv (fun (_ : Unit) => True) (fun _ t => jEnd D tys W1 A t) A
abbrev jQr (D : va_G) (tys : List (ClassId × FieldType)) (V : Nat) (W1 : va_W) (A : Nat → Prop) : Array Value → State → Outcome → State → Prop := va_Qr (fun (_ : Unit) => True) (fun _ a t => a = V ∧ jEnd D tys W1 A t) A
theorem jPre_blind (D : va_G) (tys : List (ClassId × FieldType)) (G : JG) (av : List Value) (W0 : va_W) (sz : Nat) : FrameBlind (jPre D tys G av W0 sz) := by
  intro a U g mk h
  obtain ⟨q0, q1, qP, qK, qD, qZ⟩ := h
  exact ⟨q0, q1, qP, va_K.moved (u := U) (U := U.calling g mk a) (Vm.Alike.refl U.vm) qK, qD, qZ.blind g mk a⟩
section JE
variable {l : Launch} {y : MethodName} {bytes : ByteArray} {maxL : Nat} {rm : Room} {D : va_G} {tys : List (ClassId × FieldType)} {G : JG} {av : List Value} {W0 W1 : va_W} {sz : Nat}
/-- what a method's walk has at its entry -/
def jAt (p : Program) (s : State) (m : MethodId) (c : Code) (A : Nat → Prop) (y : MethodName) (bytes : ByteArray) (maxL : Nat) (D : va_G) (tys : List (ClassId × FieldType)) (G : JG) (av : List Value) : Prop :=
  p.tables.exec = Jvm.exec ∧ c.code = bytes ∧ c.maxLocals = maxL ∧ s.vm.findClass y.cls = some m.cls ∧ (∀ w ∈ jGW, w.before av.toArray s = true) ∧ va_K D vwCl tys s ∧ jZ G A s s.heap ∧ (∀ q : Nat, s.heap.size ≤ q → A q)
theorem jEi {ty : FieldType} {V : Int32} (hy : plainName y.cls = true) (hlen : (lg_sl av).length ≤ maxL)
    (body : ∀ (p : Program) (e : Env) (s : State) (m : MethodId) (below : List Frame) (meth : Method) (c : Code) (A : Nat → Prop) (Q : State → Prop) (ls : Array Slot),
      jAt p s m c A y bytes maxL D tys G av → va_P D vwCl W0 s.heap → va_D A W0 → va_S A s.heap s.heap [] → lv_has ls maxL (lv_args 0 av) →
      (∀ (H : Heap) (locs : List Loc) (ls : Array Slot) (pc : Nat) (v : Int32), va_P D vwCl W1 H → va_D A W1 → va_S A s.heap H locs → v = V → narrow ty (.int v) = .int v → decode bytes pc = .ok (.ireturn, 1) → W p l e rm s m av.toArray below meth c H locs 0 0 Q (F0 m pc ls [.int v])) →
      W p l e rm s m av.toArray below meth c s.heap [] 0 0 Q (F0 m 0 ls [])) :
    Met l y (.code y bytes maxL (some ty) :: jGW) rm (jPre D tys G av W0 sz) (jQi D tys V W1 (va_A W0 sz)) 0 0 (va_A W0 sz) := by
  refine Met.ofW (cc := bytes) (maxL := maxL) (ret := some ty) hy rfl ?_
  intro p e s m args below meth c s₁ B hml hv
  obtain ⟨rfl, hsz, hP, hK, hD0, hZ⟩ := hv
  subst hsz
  have hts0 := atoms_spec (ws := .code y bytes maxL (some ty) :: jGW) B.pre
  have hlocks := B.notSynchronized
  have hl := lv_entry av (n := maxL) hlen
  rw [lg_entry_eq]
  refine body p e s m below meth c (va_A W0 s.heap.size) _ _ ⟨B.exec, B.bytes, hml, findClass_of_methodNamed B.named, fun w hw => hts0 w (List.mem_cons_of_mem _ hw), hK, hZ, fun q h => Or.inr h⟩ hP hD0.self va_S.rf hl ?_
  intro H locs ls pc v hP1 hD1 hS hvV hn hdg
  exact W.zret B.exec B.bytes B.returns hn (fun t ht hW => ⟨⟨v, (), rfl, hvV, by rw [ht]; exact hP1, va_K.moved hW.alike hK, hD1⟩, hS.F ht⟩) hS.2.2 hdg
theorem jEl {V : Int64} (hy : plainName y.cls = true) (hlen : (lg_sl av).length ≤ maxL)
    (body : ∀ (p : Program) (e : Env) (s : State) (m : MethodId) (below : List Frame) (meth : Method) (c : Code) (A : Nat → Prop) (Q : State → Prop) (ls : Array Slot),
      jAt p s m c A y bytes maxL D tys G av → va_P D vwCl W0 s.heap → va_D A W0 → va_S A s.heap s.heap [] → lv_has ls maxL (lv_args 0 av) →
      (∀ (H : Heap) (locs : List Loc) (ls : Array Slot) (pc : Nat) (v : Int64), va_P D vwCl W1 H → va_D A W1 → va_S A s.heap H locs → v = V → decode bytes pc = .ok (.lreturn, 1) → W p l e rm s m av.toArray below meth c H locs 0 0 Q (F0 m pc ls [.long v])) →
      W p l e rm s m av.toArray below meth c s.heap [] 0 0 Q (F0 m 0 ls [])) :
    Met l y (.code y bytes maxL (some .long) :: jGW) rm (jPre D tys G av W0 sz) (jQl D tys V W1 (va_A W0 sz)) 0 0 (va_A W0 sz) := by
  refine Met.ofW (cc := bytes) (maxL := maxL) (ret := some .long) hy rfl ?_
  intro p e s m args below meth c s₁ B hml hv
  obtain ⟨rfl, hsz, hP, hK, hD0, hZ⟩ := hv
  subst hsz
  have hts0 := atoms_spec (ws := .code y bytes maxL (some .long) :: jGW) B.pre
  have hlocks := B.notSynchronized
  have hl := lv_entry av (n := maxL) hlen
  rw [lg_entry_eq]
  refine body p e s m below meth c (va_A W0 s.heap.size) _ _ ⟨B.exec, B.bytes, hml, findClass_of_methodNamed B.named, fun w hw => hts0 w (List.mem_cons_of_mem _ hw), hK, hZ, fun q h => Or.inr h⟩ hP hD0.self va_S.rf hl ?_
  intro H locs ls pc v hP1 hD1 hS hvV hdg
  exact W.lret B.exec B.bytes B.returns (fun t ht hW => ⟨⟨v, (), rfl, hvV, by rw [ht]; exact hP1, va_K.moved hW.alike hK, hD1⟩, hS.F ht⟩) hS.2.2 hdg
theorem jEv (hy : plainName y.cls = true) (hlen : (lg_sl av).length ≤ maxL)
    (body : ∀ (p : Program) (e : Env) (s : State) (m : MethodId) (below : List Frame) (meth : Method) (c : Code) (A : Nat → Prop) (Q : State → Prop) (ls : Array Slot),
      jAt p s m c A y bytes maxL D tys G av → va_P D vwCl W0 s.heap → va_D A W0 → va_S A s.heap s.heap [] → lv_has ls maxL (lv_args 0 av) →
      (∀ (H : Heap) (locs : List Loc) (ls : Array Slot) (pc : Nat), va_P D vwCl W1 H → va_D A W1 → va_S A s.heap H locs → decode bytes pc = .ok (.return_, 1) → W p l e rm s m av.toArray below meth c H locs 0 0 Q (F0 m pc ls [])) →
      W p l e rm s m av.toArray below meth c s.heap [] 0 0 Q (F0 m 0 ls [])) :
    Met l y (.code y bytes maxL none :: jGW) rm (jPre D tys G av W0 sz) (jQv D tys W1 (va_A W0 sz)) 0 0 (va_A W0 sz) := by
  refine Met.ofW (cc := bytes) (maxL := maxL) (ret := none) hy rfl ?_
  intro p e s m args below meth c s₁ B hml hv
  obtain ⟨rfl, hsz, hP, hK, hD0, hZ⟩ := hv
  subst hsz
  have hts0 := atoms_spec (ws := .code y bytes maxL none :: jGW) B.pre
  have hlocks := B.notSynchronized
  have hl := lv_entry av (n := maxL) hlen
  rw [lg_entry_eq]
  refine body p e s m below meth c (va_A W0 s.heap.size) _ _ ⟨B.exec, B.bytes, hml, findClass_of_methodNamed B.named, fun w hw => hts0 w (List.mem_cons_of_mem _ hw), hK, hZ, fun q h => Or.inr h⟩ hP hD0.self va_S.rf hl ?_
  intro H locs ls pc hP1 hD1 hS hdg
  exact W.vret B.exec B.bytes B.returns (fun t ht hW => ⟨⟨(), rfl, trivial, by rw [ht]; exact hP1, va_K.moved hW.alike hK, hD1⟩, hS.F ht⟩) hS.2.2 hdg
theorem jEr {rt : FieldType} {V : Nat} (hrt : (∃ n, rt = .object n) ∨ ∃ t, rt = .array t) (hy : plainName y.cls = true) (hlen : (lg_sl av).length ≤ maxL)
    (body : ∀ (p : Program) (e : Env) (s : State) (m : MethodId) (below : List Frame) (meth : Method) (c : Code) (A : Nat → Prop) (Q : State → Prop) (ls : Array Slot),
      jAt p s m c A y bytes maxL D tys G av → va_P D vwCl W0 s.heap → va_D A W0 → va_S A s.heap s.heap [] → lv_has ls maxL (lv_args 0 av) →
      (∀ (H : Heap) (locs : List Loc) (ls : Array Slot) (pc : Nat) (v : Nat), va_P D vwCl W1 H → va_D A W1 → va_S A s.heap H locs → v = V → decode bytes pc = .ok (.areturn, 1) → W p l e rm s m av.toArray below meth c H locs 0 0 Q (F0 m pc ls [.ref v])) →
      W p l e rm s m av.toArray below meth c s.heap [] 0 0 Q (F0 m 0 ls [])) :
    Met l y (.code y bytes maxL (some rt) :: jGW) rm (jPre D tys G av W0 sz) (jQr D tys V W1 (va_A W0 sz)) 0 0 (va_A W0 sz) := by
  refine Met.ofW (cc := bytes) (maxL := maxL) (ret := some rt) hy rfl ?_
  intro p e s m args below meth c s₁ B hml hv
  obtain ⟨rfl, hsz, hP, hK, hD0, hZ⟩ := hv
  subst hsz
  have hts0 := atoms_spec (ws := .code y bytes maxL (some rt) :: jGW) B.pre
  have hlocks := B.notSynchronized
  have hl := lv_entry av (n := maxL) hlen
  rw [lg_entry_eq]
  refine body p e s m below meth c (va_A W0 s.heap.size) _ _ ⟨B.exec, B.bytes, hml, findClass_of_methodNamed B.named, fun w hw => hts0 w (List.mem_cons_of_mem _ hw), hK, hZ, fun q h => Or.inr h⟩ hP hD0.self va_S.rf hl ?_
  intro H locs ls pc v hP1 hD1 hS hvV hdg
  exact W.aret B.exec B.bytes B.returns hrt (Or.inr ⟨_, rfl⟩) (fun t ht hW => ⟨⟨(), v, rfl, trivial, hvV, by rw [ht]; exact hP1, va_K.moved hW.alike hK, hD1⟩, hS.F ht⟩) hS.2.2 hdg
end JE
-- worlds: cells in place
def jput : va_W → List Nat → va_W → va_W
  | ws, i :: is, w :: w1 => jput (ws.set i w) is w1
  | ws, _, _ => ws
theorem jsub_fm {ws wc : va_W} {is : List Nat} (h : is.map (fun i => ws[i]?) = wc.map some) : is.filterMap (fun i => ws[i]?) = wc := by
  have h1 : (is.map (fun i => ws[i]?)).filterMap id = (wc.map some).filterMap id := by rw [h]
  rw [List.filterMap_map, List.filterMap_map] at h1
  simpa [Function.comp_def] using h1
theorem jput_at : ∀ (is : List Nat) (w1 ws : va_W), is.length = w1.length → ∀ (k : Nat) (q : Nat × va_E), (jput ws is w1)[k]? = some q → (∃ j : Nat, w1[j]? = some q) ∨ (ws[k]? = some q ∧ k ∉ is)
  | [], w1, ws, _, k, q, h => by
    have h' : ws[k]? = some q := by
      cases w1 <;> exact h
    exact Or.inr ⟨h', by simp⟩
  | i :: is, [], ws, hl, k, q, h => by simp at hl
  | i :: is, w :: w1, ws, hl, k, q, h => by
    have h2 : (jput (ws.set i w) is w1)[k]? = some q := h
    rcases jput_at is w1 (ws.set i w) (by simpa using hl) k q h2 with ⟨j, hj⟩ | ⟨h3, h4⟩
    · exact Or.inl ⟨j + 1, by simpa using hj⟩
    · by_cases hk : k = i
      · subst hk
        have hlt : k < ws.length := by
          have := (List.getElem?_eq_some_iff.mp h3).1
          simpa using this
        rw [List.getElem?_set_self hlt] at h3
        cases h3
        exact Or.inl ⟨0, rfl⟩
      · rw [List.getElem?_set_ne (Ne.symm hk)] at h3
        exact Or.inr ⟨h3, by simp [hk, h4]⟩
theorem jput_fst : ∀ (is : List Nat) (w1 ws : va_W), is.map (fun i => (ws.map Prod.fst)[i]?) = w1.map (fun w => some w.1) → (jput ws is w1).map Prod.fst = ws.map Prod.fst
  | [], w1, ws, _ => by cases w1 <;> rfl
  | i :: is, [], ws, _ => rfl
  | i :: is, w :: w1, ws, h => by
    have h1 : (ws.map Prod.fst)[i]? = some w.1 := by simpa using (List.cons.inj h).1
    have h2 := (List.cons.inj h).2
    have e : (ws.set i w).map Prod.fst = ws.map Prod.fst := by
      rw [List.map_set]
      apply List.ext_getElem?
      intro n
      by_cases hn : n = i
      · subst hn
        rw [List.getElem?_set_self (List.getElem?_eq_some_iff.mp h1).1, h1]
      · rw [List.getElem?_set_ne (Ne.symm hn)]
    show (jput (ws.set i w) is w1).map Prod.fst = ws.map Prod.fst
    rw [jput_fst is w1 (ws.set i w) (by rw [e]; exact h2), e]
theorem jD_congr {A : Nat → Prop} {ws ws' : va_W} (e : ws'.map Prod.fst = ws.map Prod.fst) (h : va_D A ws) : va_D A ws' := by
  have key : ∀ (k : Nat) (q : Nat × va_E), ws'[k]? = some q → ∃ q', ws[k]? = some q' ∧ q'.1 = q.1 := by
    intro k q hk
    have h1 : (ws'.map Prod.fst)[k]? = some q.1 := by rw [List.getElem?_map, hk]; rfl
    rw [e, List.getElem?_map] at h1
    cases hw : ws[k]? with
    | none => rw [hw] at h1; simp at h1
    | some q' => rw [hw] at h1; exact ⟨q', rfl, by simpa using h1⟩
  refine ⟨fun i j p q hp hq hpq => ?_, fun k q hk => ?_⟩
  · obtain ⟨p', hp', ep⟩ := key i p hp
    obtain ⟨q', hq', eq⟩ := key j q hq
    exact h.1 i j p' q' hp' hq' (by rw [ep, eq]; exact hpq)
  · obtain ⟨q', hq', eq⟩ := key k q hk
    rw [← eq]; exact h.2 k q' hq'
theorem jput_self : ∀ (is : List Nat) (w1 ws : va_W), is.map (fun i => ws[i]?) = w1.map some → jput ws is w1 = ws
  | [], w1, ws, _ => by cases w1 <;> rfl
  | i :: is, [], ws, _ => rfl
  | i :: is, w :: w1, ws, h => by
    have h1 : ws[i]? = some w := by simpa using (List.cons.inj h).1
    have e : ws.set i w = ws := by
      apply List.ext_getElem?
      intro n
      by_cases hn : n = i
      · subst hn
        rw [List.getElem?_set_self (List.getElem?_eq_some_iff.mp h1).1, h1]
      · rw [List.getElem?_set_ne (Ne.symm hn)]
    show jput (ws.set i w) is w1 = ws
    rw [e]
    exact jput_self is w1 ws (List.cons.inj h).2
theorem jjoin {A0 : Nat → Prop} {D : va_G} {cl : List vw_C} {ws wc w1 : va_W} {H H1 : Heap} (hP : va_P D cl ws H) (hD : va_D A0 ws) (is : List Nat) (hC : is.map (fun i => ws[i]?) = wc.map some) (had : w1.map Prod.fst = wc.map Prod.fst)
    (hk : ∀ q : Nat, q < H.size → ¬ va_A wc H.size q → H1[q]? = H[q]?) (hP1 : va_P D cl w1 H1) : va_P D cl (jput ws is w1) H1 ∧ va_D A0 (jput ws is w1) := by
  have hlen : is.length = w1.length := by
    have a1 := congrArg List.length hC
    have a2 := congrArg List.length had
    simp at a1 a2
    omega
  refine ⟨fun k q hkq => ?_, jD_congr (jput_fst is w1 ws ?_) hD⟩
  · rcases jput_at is w1 ws hlen k q hkq with ⟨j, hj⟩ | ⟨h1, h2⟩
    · exact hP1 j q hj
    · have hat := hP k q h1
      refine hat.kept (hk q.1 hat.lt ?_)
      rintro (⟨j, e, hj⟩ | hge)
      · have h3 : (is.map (fun i => ws[i]?))[j]? = some (some (q.1, e)) := by rw [hC, List.getElem?_map, hj]; rfl
        rw [List.getElem?_map] at h3
        cases hi : is[j]? with
        | none => rw [hi] at h3; simp at h3
        | some i =>
          rw [hi] at h3
          have h4 : ws[i]? = some (q.1, e) := by simpa using h3
          have h5 := hD.1 k i q (q.1, e) h1 h4 rfl
          exact h2 (h5 ▸ List.mem_of_getElem? hi)
      · exact absurd hat.lt (Nat.not_lt.mpr hge)
  · have e2 : (is.map (fun i => ws[i]?)).map (Option.map Prod.fst) = (wc.map some).map (Option.map Prod.fst) := by rw [hC]
    have e3 : is.map (fun i => (ws.map Prod.fst)[i]?) = wc.map (fun w => some w.1) := by
      simpa [List.map_map, Function.comp_def, List.getElem?_map] using e2
    rw [e3]
    have e4 := congrArg (List.map some) had
    simpa [List.map_map, Function.comp_def] using e4.symm

/-- what the tables say of a method that is called on an object, and of a static one -/
def jMV (y : MethodName) (bytes : ByteArray) (maxL : Nat) (ret : Option FieldType) (C : String) (n : Nat) : Prop :=
  Cond.code y bytes maxL ret ∈ jGW ∧ Cond.instanceMethod y ∈ jGW ∧ Cond.selects C y y ∈ jGW ∧ Cond.initialized y.cls ∈ jGW ∧ y.cls ≠ "java/lang/invoke/MethodHandle" ∧ y.cls ≠ "java/lang/invoke/VarHandle" ∧ (parseMethodDescriptor y.desc).map (fun d => d.parameters.length) = some n
def jMS (y : MethodName) (bytes : ByteArray) (maxL : Nat) (ret : Option FieldType) (n : Nat) : Prop :=
  Cond.code y bytes maxL ret ∈ jGW ∧ Cond.static y ∈ jGW ∧ Cond.initialized y.cls ∈ jGW ∧ y.cls ≠ "java/lang/invoke/MethodHandle" ∧ y.cls ≠ "java/lang/invoke/VarHandle" ∧ (parseMethodDescriptor y.desc).map (fun d => d.parameters.length) = some n
def jRm (rm : Room) (maxL : Nat) (R : Room) : Prop := rm.cells = 0 ∧ rm.slots = 0 ∧ rm.frames + 1 ≤ R.frames ∧ 8 + (maxL + 11) + rm.locals ≤ R.locals
section JC
variable {p : Program} {l : Launch} {e : Env} {R : Room} {s : State} {m : MethodId} {args : Array Value} {below : List Frame} {meth : Method} {c : Code} {H : Heap} {locs : List Loc} {cells slots : Nat} {Q : State → Prop}
variable {pc : Nat} {ls : Array Slot} {rest st0 : List Value} {A : Nat → Prop} {D : va_G} {tys : List (ClassId × FieldType)} {G : JG} {ws wc wc' : va_W} {cc : ByteArray} {nL : Nat}
variable {y : MethodName} {bytes : ByteArray} {maxL idx n : Nat} {ret : Option FieldType} {rm : Room} {own C host : String} {b : Addr} {As av : List Value} {a : Array Value}
theorem jfree (hD : va_D A ws) (hS : va_S A s.heap H locs) (hA : ∀ q : Nat, s.heap.size ≤ q → A q) (is : List Nat) (hC : is.map (fun i => ws[i]?) = wc.map some) : ∀ q, va_A wc H.size q → A q := va_free hD hS hA is hC
theorem jpre (hK : va_K D vwCl tys s) (hZ : jZ G A s s.heap) (hA : ∀ q : Nat, s.heap.size ≤ q → A q) (hP : va_P D vwCl ws H) (hD : va_D A ws) (hS : va_S A s.heap H locs) (is : List Nat) (hn : va_nd is = true) (hC : is.map (fun i => ws[i]?) = wc.map some) : PreS s H (jPre D tys G av wc H.size) av := by
  have hF := jfree hD hS hA is hC
  refine ⟨jPre_blind D tys G av wc H.size, fun U hU hW => ⟨rfl, by rw [hU], ?_, va_K.moved hW.alike hK, (hD.sub is hn hC).weaken (fun _ _ _ _ => trivial), hZ.call hS hF hW hU⟩⟩
  rw [hU]
  exact hP.sub is (jsub_fm hC)
theorem jrunV (hx : p.tables.exec = Jvm.exec) (hb : c.code = cc) (hml : c.maxLocals = nL) (hown : s.vm.findClass own = some m.cls) (hts : ∀ w ∈ jGW, w.before args s = true) (hK : va_K D vwCl tys s) (hZ : jZ G A s s.heap) (hA : ∀ q : Nat, s.heap.size ≤ q → A q) (hP : va_P D vwCl ws H) (hD : va_D A ws) (hS : va_S A s.heap H locs) (hls : ls.size = nL)
    (hF : jMV y bytes maxL ret C n) (hlink : Cond.methodLink own idx y ∈ jGW) (hR : jRm rm maxL R) (hcs : cells ≤ R.cells ∧ slots ≤ R.slots) (is : List Nat) (hn : va_nd is = true) (hC : is.map (fun i => ws[i]?) = wc.map some)
    {ci : Nat} {q : vw_C} {fs : List Value} (hc : vwCl[ci]? = some q) (hcq : q.1 = C) (he : wc[0]? = some (b, .inr (ci, fs)))
    {Qc : Array Value → State → Outcome → State → Prop} {free : Addr → Prop} (hM : Met l y (.code y bytes maxL ret :: jGW) rm (jPre D tys G (.ref b :: As) wc H.size) Qc 0 0 free)
    (hst : st0 = As.reverse ++ .ref b :: rest) (hAs : As.length = n) (hrest : (rest.map fun v => v.category).sum ≤ 8) (hdg : decode cc pc = .ok (.invokevirtual idx, 3)) :
    va_Run p l e R s m args below meth c H locs cells slots 0 0 (F0 m pc ls st0) rest (Qc (Value.ref b :: As).toArray) free := by
  obtain ⟨f1, f2, f3, f4, f5, f6, f7⟩ := hF
  obtain ⟨r1, r2, r3, r4⟩ := hR
  have hpre := jpre (av := .ref b :: As) hK hZ hA hP hD hS is hn hC
  have hcw : CallW R s args own C idx y bytes maxL ret (.code y bytes maxL ret :: jGW) rm 0 0 n := ⟨callB_of n hts (jgood f1) rfl r1 r2 (hts _ f4) (hts _ hlink) ⟨f5, f6, f7⟩ ⟨r3, r4⟩, hts _ f2, hts _ f3⟩
  subst hcq
  exact va_runV (As := As) (rest := rest) ⟨hx, hb, hml, hown, hts⟩ hM hcw ⟨hpre.1, va_recv (hK) (hP.sub is (jsub_fm hC)) hc he, hpre.2⟩ rfl hAs hls (by rw [hst]) (lv_room hrest) hdg ⟨by omega, by omega⟩
theorem jrunVs (hx : p.tables.exec = Jvm.exec) (hb : c.code = cc) (hml : c.maxLocals = nL) (hown : s.vm.findClass own = some m.cls) (hts : ∀ w ∈ jGW, w.before args s = true) (hK : va_K D vwCl tys s) (hZ : jZ G A s s.heap) (hA : ∀ q : Nat, s.heap.size ≤ q → A q) (hP : va_P D vwCl ws H) (hD : va_D A ws) (hS : va_S A s.heap H locs) (hls : ls.size = nL)
    (hF : jMV y bytes maxL ret C n) (hlink : Cond.methodLink own idx y ∈ jGW) (hR : jRm rm maxL R) (hcs : cells ≤ R.cells ∧ slots ≤ R.slots) (is : List Nat) (hn : va_nd is = true) (hC : is.map (fun i => ws[i]?) = wc.map some)
    (hrv : ∃ cell : Cell, H[b]? = some cell ∧ cell.vm.isStatics = false ∧ s.vm.findClass C = some cell.cls)
    {Qc : Array Value → State → Outcome → State → Prop} {free : Addr → Prop} (hM : Met l y (.code y bytes maxL ret :: jGW) rm (jPre D tys G (.ref b :: As) wc H.size) Qc 0 0 free)
    (hst : st0 = As.reverse ++ .ref b :: rest) (hAs : As.length = n) (hrest : (rest.map fun v => v.category).sum ≤ 8) (hdg : decode cc pc = .ok (.invokevirtual idx, 3)) :
    va_Run p l e R s m args below meth c H locs cells slots 0 0 (F0 m pc ls st0) rest (Qc (Value.ref b :: As).toArray) free := by
  obtain ⟨f1, f2, f3, f4, f5, f6, f7⟩ := hF
  obtain ⟨r1, r2, r3, r4⟩ := hR
  have hpre := jpre (av := .ref b :: As) hK hZ hA hP hD hS is hn hC
  have hcw : CallW R s args own C idx y bytes maxL ret (.code y bytes maxL ret :: jGW) rm 0 0 n := ⟨callB_of n hts (jgood f1) rfl r1 r2 (hts _ f4) (hts _ hlink) ⟨f5, f6, f7⟩ ⟨r3, r4⟩, hts _ f2, hts _ f3⟩
  exact va_runV (As := As) (rest := rest) ⟨hx, hb, hml, hown, hts⟩ hM hcw ⟨hpre.1, hrv, hpre.2⟩ rfl hAs hls (by rw [hst]) (lv_room hrest) hdg ⟨by omega, by omega⟩
theorem jrunS (hx : p.tables.exec = Jvm.exec) (hb : c.code = cc) (hml : c.maxLocals = nL) (hown : s.vm.findClass own = some m.cls) (hts : ∀ w ∈ jGW, w.before args s = true) (hK : va_K D vwCl tys s) (hZ : jZ G A s s.heap) (hA : ∀ q : Nat, s.heap.size ≤ q → A q) (hP : va_P D vwCl ws H) (hD : va_D A ws) (hS : va_S A s.heap H locs) (hls : ls.size = nL)
    (hF : jMS y bytes maxL ret n) (hlink : Cond.methodLink own idx y ∈ jGW) (hR : jRm rm maxL R) (hcs : cells ≤ R.cells ∧ slots ≤ R.slots) (is : List Nat) (hn : va_nd is = true) (hC : is.map (fun i => ws[i]?) = wc.map some)
    {Qc : Array Value → State → Outcome → State → Prop} {free : Addr → Prop} (hM : Met l y (.code y bytes maxL ret :: jGW) rm (jPre D tys G As wc H.size) Qc 0 0 free)
    (hst : st0 = As.reverse ++ rest) (hAs : As.length = n) (hrest : (rest.map fun v => v.category).sum ≤ 8) (hdg : decode cc pc = .ok (.invokestatic idx, 3)) :
    va_Run p l e R s m args below meth c H locs cells slots 0 0 (F0 m pc ls st0) rest (Qc As.toArray) free := by
  obtain ⟨f1, f2, f4, f5, f6, f7⟩ := hF
  obtain ⟨r1, r2, r3, r4⟩ := hR
  exact va_runS (As := As) (rest := rest) ⟨hx, hb, hml, hown, hts⟩ hM ⟨callB_of n hts (jgood f1) rfl r1 r2 (hts _ f4) (hts _ hlink) ⟨f5, f6, f7⟩ ⟨r3, r4⟩, hts _ f2⟩ (jpre hK hZ hA hP hD hS is hn hC) rfl hAs hls (by rw [hst]) (lv_room hrest) hdg ⟨by omega, by omega⟩
theorem jrunSN (hx : p.tables.exec = Jvm.exec) (hb : c.code = cc) (hml : c.maxLocals = nL) (hown : s.vm.findClass own = some m.cls) (hts : ∀ w ∈ jGW, w.before args s = true) (hK : va_K D vwCl tys s) (hZ : jZ G A s s.heap) (hA : ∀ q : Nat, s.heap.size ≤ q → A q) (hP : va_P D vwCl ws H) (hD : va_D A ws) (hS : va_S A s.heap H locs) (hls : ls.size = nL)
    (hF : jMS y bytes maxL ret n) (hlink : Cond.methodLinkNest own idx y host ∈ lw_tbl) (hR : jRm rm maxL R) (hcs : cells ≤ R.cells ∧ slots ≤ R.slots) (is : List Nat) (hn : va_nd is = true) (hC : is.map (fun i => ws[i]?) = wc.map some)
    {Qc : Array Value → State → Outcome → State → Prop} {free : Addr → Prop} (hM : Met l y (.code y bytes maxL ret :: jGW) rm (jPre D tys G As wc H.size) Qc 0 0 free)
    (hst : st0 = As.reverse ++ rest) (hAs : As.length = n) (hrest : (rest.map fun v => v.category).sum ≤ 8) (hdg : decode cc pc = .ok (.invokestatic idx, 3)) :
    va_Run p l e R s m args below meth c H locs cells slots 0 0 (F0 m pc ls st0) rest (Qc As.toArray) free := by
  obtain ⟨f1, f2, f4, f5, f6, f7⟩ := hF
  obtain ⟨r1, r2, r3, r4⟩ := hR
  exact va_runSN (As := As) (rest := rest) ⟨hx, hb, hml, hown, hts⟩ hM ⟨va_cnB n hts (jgood f1) rfl r1 r2 (hZ.2.2.2.2.1 _ hlink rfl) (hts _ f4) ⟨f5, f6, f7⟩ ⟨r3, r4⟩, hts _ f2, trivial⟩ (jpre hK hZ hA hP hD hS is hn hC) rfl hAs hls (by rw [hst]) (lv_room hrest) hdg ⟨by omega, by omega⟩
/-- behind a call that answers an int: the callee's cells in place -/
theorem jci {V : Int32} (hr : va_Run p l e R s m args below meth c H locs cells slots 0 0 (F0 m pc ls st0) rest (jQi D tys V wc' (va_A wc H.size) a) (va_A wc H.size)) (hA : ∀ q : Nat, s.heap.size ≤ q → A q) (hP : va_P D vwCl ws H) (hD : va_D A ws) (hS : va_S A s.heap H locs) (is : List Nat) (hC : is.map (fun i => ws[i]?) = wc.map some) (had : wc'.map Prod.fst = wc.map Prod.fst)
    (kk : ∀ (H : Heap) (locs : List Loc), va_P D vwCl (jput ws is wc') H → va_D A (jput ws is wc') → va_S A s.heap H locs → W p l e R s m args below meth c H locs cells slots Q (F0 m (pc + 3) ls (.int V :: rest))) : W p l e R s m args below meth c H locs cells slots Q (F0 m pc ls st0) := by
  have hF := jfree hD hS hA is hC
  refine va_calli hr hS (fun q _ h => hF q h) hF (fun r u t H1 locs1 ht hvm hw hB hz1 hk1 hS1 => ?_)
  obtain ⟨hP1, -, -⟩ := hB
  rw [ht] at hP1
  subst hw
  obtain ⟨hP2, hD2⟩ := jjoin hP hD is hC had hk1 hP1
  exact kk H1 locs1 hP2 hD2 hS1
theorem jcl {V : Int64} (hr : va_Run p l e R s m args below meth c H locs cells slots 0 0 (F0 m pc ls st0) rest (jQl D tys V wc' (va_A wc H.size) a) (va_A wc H.size)) (hA : ∀ q : Nat, s.heap.size ≤ q → A q) (hP : va_P D vwCl ws H) (hD : va_D A ws) (hS : va_S A s.heap H locs) (is : List Nat) (hC : is.map (fun i => ws[i]?) = wc.map some) (had : wc'.map Prod.fst = wc.map Prod.fst)
    (kk : ∀ (H : Heap) (locs : List Loc), va_P D vwCl (jput ws is wc') H → va_D A (jput ws is wc') → va_S A s.heap H locs → W p l e R s m args below meth c H locs cells slots Q (F0 m (pc + 3) ls (.long V :: rest))) : W p l e R s m args below meth c H locs cells slots Q (F0 m pc ls st0) := by
  have hF := jfree hD hS hA is hC
  refine va_calll hr hS (fun q _ h => hF q h) hF (fun r u t H1 locs1 ht hvm hw hB hz1 hk1 hS1 => ?_)
  obtain ⟨hP1, -, -⟩ := hB
  rw [ht] at hP1
  subst hw
  obtain ⟨hP2, hD2⟩ := jjoin hP hD is hC had hk1 hP1
  exact kk H1 locs1 hP2 hD2 hS1
theorem jcv (hr : va_Run p l e R s m args below meth c H locs cells slots 0 0 (F0 m pc ls st0) rest (jQv D tys wc' (va_A wc H.size) a) (va_A wc H.size)) (hA : ∀ q : Nat, s.heap.size ≤ q → A q) (hP : va_P D vwCl ws H) (hD : va_D A ws) (hS : va_S A s.heap H locs) (is : List Nat) (hC : is.map (fun i => ws[i]?) = wc.map some) (had : wc'.map Prod.fst = wc.map Prod.fst)
    (kk : ∀ (H : Heap) (locs : List Loc), va_P D vwCl (jput ws is wc') H → va_D A (jput ws is wc') → va_S A s.heap H locs → W p l e R s m args below meth c H locs cells slots Q (F0 m (pc + 3) ls rest)) : W p l e R s m args below meth c H locs cells slots Q (F0 m pc ls st0) := by
  have hF := jfree hD hS hA is hC
  refine va_callv hr hS (fun q _ h => hF q h) hF (fun u t H1 locs1 ht hvm hw hB hz1 hk1 hS1 => ?_)
  obtain ⟨hP1, -, -⟩ := hB
  rw [ht] at hP1
  obtain ⟨hP2, hD2⟩ := jjoin hP hD is hC had hk1 hP1
  exact kk H1 locs1 hP2 hD2 hS1
theorem jcr {V : Nat} (hr : va_Run p l e R s m args below meth c H locs cells slots 0 0 (F0 m pc ls st0) rest (jQr D tys V wc' (va_A wc H.size) a) (va_A wc H.size)) (hA : ∀ q : Nat, s.heap.size ≤ q → A q) (hP : va_P D vwCl ws H) (hD : va_D A ws) (hS : va_S A s.heap H locs) (is : List Nat) (hC : is.map (fun i => ws[i]?) = wc.map some) (had : wc'.map Prod.fst = wc.map Prod.fst)
    (kk : ∀ (H : Heap) (locs : List Loc), va_P D vwCl (jput ws is wc') H → va_D A (jput ws is wc') → va_S A s.heap H locs → W p l e R s m args below meth c H locs cells slots Q (F0 m (pc + 3) ls (.ref V :: rest))) : W p l e R s m args below meth c H locs cells slots Q (F0 m pc ls st0) := by
  have hF := jfree hD hS hA is hC
  refine va_callr hr hS (fun q _ h => hF q h) hF (fun u ra t H1 locs1 ht hvm hw hB hz1 hk1 hS1 => ?_)
  obtain ⟨hra, hP1, -, -⟩ := hB
  rw [ht] at hP1
  subst hra
  obtain ⟨hP2, hD2⟩ := jjoin hP hD is hC had hk1 hP1
  exact kk H1 locs1 hP2 hD2 hS1
/-- a call that changes nothing -/
theorem jci0 {V : Int32} (hr : va_Run p l e R s m args below meth c H locs cells slots 0 0 (F0 m pc ls st0) rest (jQi D tys V wc (va_A wc H.size) a) (va_A wc H.size)) (hA : ∀ q : Nat, s.heap.size ≤ q → A q) (hP : va_P D vwCl ws H) (hD : va_D A ws) (hS : va_S A s.heap H locs) (is : List Nat) (hC : is.map (fun i => ws[i]?) = wc.map some)
    (kk : ∀ (H : Heap) (locs : List Loc), va_P D vwCl ws H → va_S A s.heap H locs → W p l e R s m args below meth c H locs cells slots Q (F0 m (pc + 3) ls (.int V :: rest))) : W p l e R s m args below meth c H locs cells slots Q (F0 m pc ls st0) :=
  jci hr hA hP hD hS is hC rfl (fun H locs h1 h2 h3 => kk H locs (by rw [jput_self is wc ws hC] at h1; exact h1) h3)
theorem jcl0 {V : Int64} (hr : va_Run p l e R s m args below meth c H locs cells slots 0 0 (F0 m pc ls st0) rest (jQl D tys V wc (va_A wc H.size) a) (va_A wc H.size)) (hA : ∀ q : Nat, s.heap.size ≤ q → A q) (hP : va_P D vwCl ws H) (hD : va_D A ws) (hS : va_S A s.heap H locs) (is : List Nat) (hC : is.map (fun i => ws[i]?) = wc.map some)
    (kk : ∀ (H : Heap) (locs : List Loc), va_P D vwCl ws H → va_S A s.heap H locs → W p l e R s m args below meth c H locs cells slots Q (F0 m (pc + 3) ls (.long V :: rest))) : W p l e R s m args below meth c H locs cells slots Q (F0 m pc ls st0) :=
  jcl hr hA hP hD hS is hC rfl (fun H locs h1 h2 h3 => kk H locs (by rw [jput_self is wc ws hC] at h1; exact h1) h3)
theorem jcr0 {V : Nat} (hr : va_Run p l e R s m args below meth c H locs cells slots 0 0 (F0 m pc ls st0) rest (jQr D tys V wc (va_A wc H.size) a) (va_A wc H.size)) (hA : ∀ q : Nat, s.heap.size ≤ q → A q) (hP : va_P D vwCl ws H) (hD : va_D A ws) (hS : va_S A s.heap H locs) (is : List Nat) (hC : is.map (fun i => ws[i]?) = wc.map some)
    (kk : ∀ (H : Heap) (locs : List Loc), va_P D vwCl ws H → va_S A s.heap H locs → W p l e R s m args below meth c H locs cells slots Q (F0 m (pc + 3) ls (.ref V :: rest))) : W p l e R s m args below meth c H locs cells slots Q (F0 m pc ls st0) :=
  jcr hr hA hP hD hS is hC rfl (fun H locs h1 h2 h3 => kk H locs (by rw [jput_self is wc ws hC] at h1; exact h1) h3)
end JC
end
section
abbrev FA : Type := Nat → Int32
abbrev ES : Type := FA × FA × FA × FA × Int32 × Int32 × Int32
def e_home (x : ES) : FA := x.1
def e_list (x : ES) : FA := x.2.1
def e_traits (x : ES) : FA := x.2.2.1
def e_spots (x : ES) : FA := x.2.2.2.1
def e_things (x : ES) : Int32 := x.2.2.2.2.1
def e_day (x : ES) : Int32 := x.2.2.2.2.2.1
def e_z (x : ES) : Int32 := x.2.2.2.2.2.2
def e_s_home (x : ES) (v : FA) : ES := (v, x.2.1, x.2.2.1, x.2.2.2.1, x.2.2.2.2.1, x.2.2.2.2.2.1, x.2.2.2.2.2.2)
def e_s_list (x : ES) (v : FA) : ES := (x.1, v, x.2.2.1, x.2.2.2.1, x.2.2.2.2.1, x.2.2.2.2.2.1, x.2.2.2.2.2.2)
def e_s_traits (x : ES) (v : FA) : ES := (x.1, x.2.1, v, x.2.2.2.1, x.2.2.2.2.1, x.2.2.2.2.2.1, x.2.2.2.2.2.2)
def e_s_spots (x : ES) (v : FA) : ES := (x.1, x.2.1, x.2.2.1, v, x.2.2.2.2.1, x.2.2.2.2.2.1, x.2.2.2.2.2.2)
def e_s_things (x : ES) (v : Int32) : ES := (x.1, x.2.1, x.2.2.1, x.2.2.2.1, v, x.2.2.2.2.2.1, x.2.2.2.2.2.2)
def e_s_day (x : ES) (v : Int32) : ES := (x.1, x.2.1, x.2.2.1, x.2.2.2.1, x.2.2.2.2.1, v, x.2.2.2.2.2.2)
def e_s_z (x : ES) (v : Int32) : ES := (x.1, x.2.1, x.2.2.1, x.2.2.2.1, x.2.2.2.2.1, x.2.2.2.2.2.1, v)
abbrev SS : Type := FA × Int32 × Int32
def s_numbers (x : SS) : FA := x.1
def s_bits (x : SS) : Int32 := x.2.1
def s_size (x : SS) : Int32 := x.2.2
def s_s_numbers (x : SS) (v : FA) : SS := (v, x.2.1, x.2.2)
def s_s_bits (x : SS) (v : Int32) : SS := (x.1, v, x.2.2)
def s_s_size (x : SS) (v : Int32) : SS := (x.1, x.2.1, v)
abbrev TS : Type := FA × Int32 × Int32 × Int32 × Int32 × Int32 × Int32
def t_bytes (x : TS) : FA := x.1
def t_length (x : TS) : Int32 := x.2.1
def t_sort (x : TS) : Int32 := x.2.2.1
def t_begin (x : TS) : Int32 := x.2.2.2.1
def t_end (x : TS) : Int32 := x.2.2.2.2.1
def t_number (x : TS) : Int32 := x.2.2.2.2.2.1
def t_taken (x : TS) : Int32 := x.2.2.2.2.2.2
def t_s_bytes (x : TS) (v : FA) : TS := (v, x.2.1, x.2.2.1, x.2.2.2.1, x.2.2.2.2.1, x.2.2.2.2.2.1, x.2.2.2.2.2.2)
def t_s_length (x : TS) (v : Int32) : TS := (x.1, v, x.2.2.1, x.2.2.2.1, x.2.2.2.2.1, x.2.2.2.2.2.1, x.2.2.2.2.2.2)
def t_s_sort (x : TS) (v : Int32) : TS := (x.1, x.2.1, v, x.2.2.2.1, x.2.2.2.2.1, x.2.2.2.2.2.1, x.2.2.2.2.2.2)
def t_s_begin (x : TS) (v : Int32) : TS := (x.1, x.2.1, x.2.2.1, v, x.2.2.2.2.1, x.2.2.2.2.2.1, x.2.2.2.2.2.2)
def t_s_end (x : TS) (v : Int32) : TS := (x.1, x.2.1, x.2.2.1, x.2.2.2.1, v, x.2.2.2.2.2.1, x.2.2.2.2.2.2)
def t_s_number (x : TS) (v : Int32) : TS := (x.1, x.2.1, x.2.2.1, x.2.2.2.1, x.2.2.2.2.1, v, x.2.2.2.2.2.2)
def t_s_taken (x : TS) (v : Int32) : TS := (x.1, x.2.1, x.2.2.1, x.2.2.2.1, x.2.2.2.2.1, x.2.2.2.2.2.1, v)
abbrev JS : Type := ES × ES × ES × TS × (Nat → SS) × FA × FA × FA × Int32
def j_E (x : JS) : ES := x.1
def j_K (x : JS) : ES := x.2.1
def j_T (x : JS) : ES := x.2.2.1
def j_tape (x : JS) : TS := x.2.2.2.1
def j_sh (x : JS) : (Nat → SS) := x.2.2.2.2.1
def j_found (x : JS) : FA := x.2.2.2.2.2.1
def j_awards (x : JS) : FA := x.2.2.2.2.2.2.1
def j_worses (x : JS) : FA := x.2.2.2.2.2.2.2.1
def j_imageKept (x : JS) : Int32 := x.2.2.2.2.2.2.2.2
def j_s_E (x : JS) (v : ES) : JS := (v, x.2.1, x.2.2.1, x.2.2.2.1, x.2.2.2.2.1, x.2.2.2.2.2.1, x.2.2.2.2.2.2.1, x.2.2.2.2.2.2.2.1, x.2.2.2.2.2.2.2.2)
def j_s_K (x : JS) (v : ES) : JS := (x.1, v, x.2.2.1, x.2.2.2.1, x.2.2.2.2.1, x.2.2.2.2.2.1, x.2.2.2.2.2.2.1, x.2.2.2.2.2.2.2.1, x.2.2.2.2.2.2.2.2)
def j_s_T (x : JS) (v : ES) : JS := (x.1, x.2.1, v, x.2.2.2.1, x.2.2.2.2.1, x.2.2.2.2.2.1, x.2.2.2.2.2.2.1, x.2.2.2.2.2.2.2.1, x.2.2.2.2.2.2.2.2)
def j_s_tape (x : JS) (v : TS) : JS := (x.1, x.2.1, x.2.2.1, v, x.2.2.2.2.1, x.2.2.2.2.2.1, x.2.2.2.2.2.2.1, x.2.2.2.2.2.2.2.1, x.2.2.2.2.2.2.2.2)
def j_s_sh (x : JS) (v : (Nat → SS)) : JS := (x.1, x.2.1, x.2.2.1, x.2.2.2.1, v, x.2.2.2.2.2.1, x.2.2.2.2.2.2.1, x.2.2.2.2.2.2.2.1, x.2.2.2.2.2.2.2.2)
def j_s_found (x : JS) (v : FA) : JS := (x.1, x.2.1, x.2.2.1, x.2.2.2.1, x.2.2.2.2.1, v, x.2.2.2.2.2.2.1, x.2.2.2.2.2.2.2.1, x.2.2.2.2.2.2.2.2)
def j_s_awards (x : JS) (v : FA) : JS := (x.1, x.2.1, x.2.2.1, x.2.2.2.1, x.2.2.2.2.1, x.2.2.2.2.2.1, v, x.2.2.2.2.2.2.2.1, x.2.2.2.2.2.2.2.2)
def j_s_worses (x : JS) (v : FA) : JS := (x.1, x.2.1, x.2.2.1, x.2.2.2.1, x.2.2.2.2.1, x.2.2.2.2.2.1, x.2.2.2.2.2.2.1, v, x.2.2.2.2.2.2.2.2)
def j_s_imageKept (x : JS) (v : Int32) : JS := (x.1, x.2.1, x.2.2.1, x.2.2.2.1, x.2.2.2.2.1, x.2.2.2.2.2.1, x.2.2.2.2.2.2.1, x.2.2.2.2.2.2.2.1, v)
abbrev MS : Type := FA × FA × FA × Int32 × FA × FA × FA × FA × FA × Int32 × Int32 × Int32 × Int32 × Int32 × Int32
def m_m (x : MS) : FA := x.1
def m_kept (x : MS) : FA := x.2.1
def m_was (x : MS) : FA := x.2.2.1
def m_isKept (x : MS) : Int32 := x.2.2.2.1
def m_found (x : MS) : FA := x.2.2.2.2.1
def m_bitsOf (x : MS) : FA := x.2.2.2.2.2.1
def m_sizeOf (x : MS) : FA := x.2.2.2.2.2.2.1
def m_cells (x : MS) : FA := x.2.2.2.2.2.2.2.1
def m_tape (x : MS) : FA := x.2.2.2.2.2.2.2.2.1
def m_taped (x : MS) : Int32 := x.2.2.2.2.2.2.2.2.2.1
def m_token (x : MS) : Int32 := x.2.2.2.2.2.2.2.2.2.2.1
def m_begin (x : MS) : Int32 := x.2.2.2.2.2.2.2.2.2.2.2.1
def m_at (x : MS) : Int32 := x.2.2.2.2.2.2.2.2.2.2.2.2.1
def m_value (x : MS) : Int32 := x.2.2.2.2.2.2.2.2.2.2.2.2.2.1
def m_bad (x : MS) : Int32 := x.2.2.2.2.2.2.2.2.2.2.2.2.2.2
def m_s_m (x : MS) (v : FA) : MS := (v, x.2.1, x.2.2.1, x.2.2.2.1, x.2.2.2.2.1, x.2.2.2.2.2.1, x.2.2.2.2.2.2.1, x.2.2.2.2.2.2.2.1, x.2.2.2.2.2.2.2.2.1, x.2.2.2.2.2.2.2.2.2.1, x.2.2.2.2.2.2.2.2.2.2.1, x.2.2.2.2.2.2.2.2.2.2.2.1, x.2.2.2.2.2.2.2.2.2.2.2.2.1, x.2.2.2.2.2.2.2.2.2.2.2.2.2.1, x.2.2.2.2.2.2.2.2.2.2.2.2.2.2)
def m_s_kept (x : MS) (v : FA) : MS := (x.1, v, x.2.2.1, x.2.2.2.1, x.2.2.2.2.1, x.2.2.2.2.2.1, x.2.2.2.2.2.2.1, x.2.2.2.2.2.2.2.1, x.2.2.2.2.2.2.2.2.1, x.2.2.2.2.2.2.2.2.2.1, x.2.2.2.2.2.2.2.2.2.2.1, x.2.2.2.2.2.2.2.2.2.2.2.1, x.2.2.2.2.2.2.2.2.2.2.2.2.1, x.2.2.2.2.2.2.2.2.2.2.2.2.2.1, x.2.2.2.2.2.2.2.2.2.2.2.2.2.2)
def m_s_was (x : MS) (v : FA) : MS := (x.1, x.2.1, v, x.2.2.2.1, x.2.2.2.2.1, x.2.2.2.2.2.1, x.2.2.2.2.2.2.1, x.2.2.2.2.2.2.2.1, x.2.2.2.2.2.2.2.2.1, x.2.2.2.2.2.2.2.2.2.1, x.2.2.2.2.2.2.2.2.2.2.1, x.2.2.2.2.2.2.2.2.2.2.2.1, x.2.2.2.2.2.2.2.2.2.2.2.2.1, x.2.2.2.2.2.2.2.2.2.2.2.2.2.1, x.2.2.2.2.2.2.2.2.2.2.2.2.2.2)
def m_s_isKept (x : MS) (v : Int32) : MS := (x.1, x.2.1, x.2.2.1, v, x.2.2.2.2.1, x.2.2.2.2.2.1, x.2.2.2.2.2.2.1, x.2.2.2.2.2.2.2.1, x.2.2.2.2.2.2.2.2.1, x.2.2.2.2.2.2.2.2.2.1, x.2.2.2.2.2.2.2.2.2.2.1, x.2.2.2.2.2.2.2.2.2.2.2.1, x.2.2.2.2.2.2.2.2.2.2.2.2.1, x.2.2.2.2.2.2.2.2.2.2.2.2.2.1, x.2.2.2.2.2.2.2.2.2.2.2.2.2.2)
def m_s_found (x : MS) (v : FA) : MS := (x.1, x.2.1, x.2.2.1, x.2.2.2.1, v, x.2.2.2.2.2.1, x.2.2.2.2.2.2.1, x.2.2.2.2.2.2.2.1, x.2.2.2.2.2.2.2.2.1, x.2.2.2.2.2.2.2.2.2.1, x.2.2.2.2.2.2.2.2.2.2.1, x.2.2.2.2.2.2.2.2.2.2.2.1, x.2.2.2.2.2.2.2.2.2.2.2.2.1, x.2.2.2.2.2.2.2.2.2.2.2.2.2.1, x.2.2.2.2.2.2.2.2.2.2.2.2.2.2)
def m_s_bitsOf (x : MS) (v : FA) : MS := (x.1, x.2.1, x.2.2.1, x.2.2.2.1, x.2.2.2.2.1, v, x.2.2.2.2.2.2.1, x.2.2.2.2.2.2.2.1, x.2.2.2.2.2.2.2.2.1, x.2.2.2.2.2.2.2.2.2.1, x.2.2.2.2.2.2.2.2.2.2.1, x.2.2.2.2.2.2.2.2.2.2.2.1, x.2.2.2.2.2.2.2.2.2.2.2.2.1, x.2.2.2.2.2.2.2.2.2.2.2.2.2.1, x.2.2.2.2.2.2.2.2.2.2.2.2.2.2)
def m_s_sizeOf (x : MS) (v : FA) : MS := (x.1, x.2.1, x.2.2.1, x.2.2.2.1, x.2.2.2.2.1, x.2.2.2.2.2.1, v, x.2.2.2.2.2.2.2.1, x.2.2.2.2.2.2.2.2.1, x.2.2.2.2.2.2.2.2.2.1, x.2.2.2.2.2.2.2.2.2.2.1, x.2.2.2.2.2.2.2.2.2.2.2.1, x.2.2.2.2.2.2.2.2.2.2.2.2.1, x.2.2.2.2.2.2.2.2.2.2.2.2.2.1, x.2.2.2.2.2.2.2.2.2.2.2.2.2.2)
def m_s_cells (x : MS) (v : FA) : MS := (x.1, x.2.1, x.2.2.1, x.2.2.2.1, x.2.2.2.2.1, x.2.2.2.2.2.1, x.2.2.2.2.2.2.1, v, x.2.2.2.2.2.2.2.2.1, x.2.2.2.2.2.2.2.2.2.1, x.2.2.2.2.2.2.2.2.2.2.1, x.2.2.2.2.2.2.2.2.2.2.2.1, x.2.2.2.2.2.2.2.2.2.2.2.2.1, x.2.2.2.2.2.2.2.2.2.2.2.2.2.1, x.2.2.2.2.2.2.2.2.2.2.2.2.2.2)
def m_s_tape (x : MS) (v : FA) : MS := (x.1, x.2.1, x.2.2.1, x.2.2.2.1, x.2.2.2.2.1, x.2.2.2.2.2.1, x.2.2.2.2.2.2.1, x.2.2.2.2.2.2.2.1, v, x.2.2.2.2.2.2.2.2.2.1, x.2.2.2.2.2.2.2.2.2.2.1, x.2.2.2.2.2.2.2.2.2.2.2.1, x.2.2.2.2.2.2.2.2.2.2.2.2.1, x.2.2.2.2.2.2.2.2.2.2.2.2.2.1, x.2.2.2.2.2.2.2.2.2.2.2.2.2.2)
def m_s_taped (x : MS) (v : Int32) : MS := (x.1, x.2.1, x.2.2.1, x.2.2.2.1, x.2.2.2.2.1, x.2.2.2.2.2.1, x.2.2.2.2.2.2.1, x.2.2.2.2.2.2.2.1, x.2.2.2.2.2.2.2.2.1, v, x.2.2.2.2.2.2.2.2.2.2.1, x.2.2.2.2.2.2.2.2.2.2.2.1, x.2.2.2.2.2.2.2.2.2.2.2.2.1, x.2.2.2.2.2.2.2.2.2.2.2.2.2.1, x.2.2.2.2.2.2.2.2.2.2.2.2.2.2)
def m_s_token (x : MS) (v : Int32) : MS := (x.1, x.2.1, x.2.2.1, x.2.2.2.1, x.2.2.2.2.1, x.2.2.2.2.2.1, x.2.2.2.2.2.2.1, x.2.2.2.2.2.2.2.1, x.2.2.2.2.2.2.2.2.1, x.2.2.2.2.2.2.2.2.2.1, v, x.2.2.2.2.2.2.2.2.2.2.2.1, x.2.2.2.2.2.2.2.2.2.2.2.2.1, x.2.2.2.2.2.2.2.2.2.2.2.2.2.1, x.2.2.2.2.2.2.2.2.2.2.2.2.2.2)
def m_s_begin (x : MS) (v : Int32) : MS := (x.1, x.2.1, x.2.2.1, x.2.2.2.1, x.2.2.2.2.1, x.2.2.2.2.2.1, x.2.2.2.2.2.2.1, x.2.2.2.2.2.2.2.1, x.2.2.2.2.2.2.2.2.1, x.2.2.2.2.2.2.2.2.2.1, x.2.2.2.2.2.2.2.2.2.2.1, v, x.2.2.2.2.2.2.2.2.2.2.2.2.1, x.2.2.2.2.2.2.2.2.2.2.2.2.2.1, x.2.2.2.2.2.2.2.2.2.2.2.2.2.2)
def m_s_at (x : MS) (v : Int32) : MS := (x.1, x.2.1, x.2.2.1, x.2.2.2.1, x.2.2.2.2.1, x.2.2.2.2.2.1, x.2.2.2.2.2.2.1, x.2.2.2.2.2.2.2.1, x.2.2.2.2.2.2.2.2.1, x.2.2.2.2.2.2.2.2.2.1, x.2.2.2.2.2.2.2.2.2.2.1, x.2.2.2.2.2.2.2.2.2.2.2.1, v, x.2.2.2.2.2.2.2.2.2.2.2.2.2.1, x.2.2.2.2.2.2.2.2.2.2.2.2.2.2)
def m_s_value (x : MS) (v : Int32) : MS := (x.1, x.2.1, x.2.2.1, x.2.2.2.1, x.2.2.2.2.1, x.2.2.2.2.2.1, x.2.2.2.2.2.2.1, x.2.2.2.2.2.2.2.1, x.2.2.2.2.2.2.2.2.1, x.2.2.2.2.2.2.2.2.2.1, x.2.2.2.2.2.2.2.2.2.2.1, x.2.2.2.2.2.2.2.2.2.2.2.1, x.2.2.2.2.2.2.2.2.2.2.2.2.1, v, x.2.2.2.2.2.2.2.2.2.2.2.2.2.2)
def m_s_bad (x : MS) (v : Int32) : MS := (x.1, x.2.1, x.2.2.1, x.2.2.2.1, x.2.2.2.2.1, x.2.2.2.2.2.1, x.2.2.2.2.2.2.1, x.2.2.2.2.2.2.2.1, x.2.2.2.2.2.2.2.2.1, x.2.2.2.2.2.2.2.2.2.1, x.2.2.2.2.2.2.2.2.2.2.1, x.2.2.2.2.2.2.2.2.2.2.2.1, x.2.2.2.2.2.2.2.2.2.2.2.2.1, x.2.2.2.2.2.2.2.2.2.2.2.2.2.1, v)
def j_s (J : JS) (j : Nat) : SS := j_sh J j
def j_s_s (J : JS) (j : Nat) (S : SS) : JS := j_s_sh J (fun i => if i = j then S else j_sh J i)
abbrev JK : Type := ClassId × ClassId × ClassId
abbrev jT (K : JK) : List (ClassId × FieldType) := [(K.1, .int), (K.2.1, .byte), (K.2.2, .object "JudgedDeposits$Sheet")]
def wE (K : JK) (a : Nat → Nat) (x : ES) : va_W := [(a 0, .inr (0, [.ref (a 1), .ref (a 2), .ref (a 3), .ref (a 4), .int (e_things x), .int (e_day x), .int (e_z x)])), (a 1, .inl (K.1, 7, .inl (e_home x))), (a 2, .inl (K.1, 6, .inl (e_list x))), (a 3, .inl (K.1, 56, .inl (e_traits x))), (a 4, .inl (K.1, 10, .inl (e_spots x)))]
def wS (K : JK) (a : Nat → Nat) (x : SS) : va_W := [(a 0, .inr (1, [.ref (a 1), .int (s_bits x), .int (s_size x)])), (a 1, .inl (K.1, 40, .inl (s_numbers x)))]
def wT (K : JK) (a : Nat → Nat) (x : TS) : va_W := [(a 0, .inr (2, [.ref (a 1), .int (t_length x), .int (t_sort x), .int (t_begin x), .int (t_end x), .int (t_number x), .int (t_taken x)])), (a 1, .inl (K.2.1, 120, .inl (t_bytes x)))]
def wM (K : JK) (a : Nat → Nat) (x : MS) : va_W := [(a 0, .inr (4, [.ref (a 1), .ref (a 2), .ref (a 3), .int (m_isKept x), .ref (a 4), .ref (a 5), .ref (a 6), .ref (a 7), .ref (a 8), .int (m_taped x), .int (m_token x), .int (m_begin x), .int (m_at x), .int (m_value x), .int (m_bad x)])), (a 1, .inl (K.1, 82, .inl (m_m x))), (a 2, .inl (K.1, 82, .inl (m_kept x))), (a 3, .inl (K.1, 82, .inl (m_was x))), (a 4, .inl (K.1, 7, .inl (m_found x))), (a 5, .inl (K.1, 4, .inl (m_bitsOf x))), (a 6, .inl (K.1, 4, .inl (m_sizeOf x))), (a 7, .inl (K.1, 160, .inl (m_cells x))), (a 8, .inl (K.1, 120, .inl (m_tape x)))]
def wA (K : JK) (n : Nat) (a : Nat) (f : FA) : va_W := [(a, .inl (K.1, n, .inl f))]
def wJ (K : JK) (a : Nat → Nat) (x : JS) : va_W := [(a 0, .inr (3, [.ref (a 1), .ref (a 6), .ref (a 11), .ref (a 16), .ref (a 18), .ref (a 27), .ref (a 28), .ref (a 29), .int (j_imageKept x)]))] ++ (wE K (fun k => a (1 + k)) (j_E x) ++ (wE K (fun k => a (6 + k)) (j_K x) ++ (wE K (fun k => a (11 + k)) (j_T x) ++ (wT K (fun k => a (16 + k)) (j_tape x) ++ ([(a 18, .inl (K.2.2, 4, .inr (.inr (.inr (.inr (fun j => some (a (19 + 2 * j))))))))] ++ (wS K (fun k => a (19 + 2 * 0 + k)) (j_s x 0) ++ (wS K (fun k => a (19 + 2 * 1 + k)) (j_s x 1) ++ (wS K (fun k => a (19 + 2 * 2 + k)) (j_s x 2) ++ (wS K (fun k => a (19 + 2 * 3 + k)) (j_s x 3) ++ [(a 27, .inl (K.1, 7, .inl (j_found x))), (a 28, .inl (K.1, 8, .inl (j_awards x))), (a 29, .inl (K.1, 10, .inl (j_worses x)))])))))))))
def jmax (x y : Int32) : Int32 := if x < y then y else x
def jmin (x y : Int32) : Int32 := if y < x then y else x
def jrem (x y : Int32) : Int32 := x - x / y * y
def jushr (x y : Int32) : Int32 := (x.toUInt32 >>> (y.toUInt32 &&& Int32.toUInt32 31)).toInt32
theorem jneL {x k : Int32} {z : Int} (h : ¬ x = k) (hk : k.toInt = z) : x.toInt ≠ z := fun e => h (Int32.toInt_inj.mp (e.trans hk.symm))
theorem jnb {v : Int32} (h : v = 0 ∨ v = 1) : narrow .boolean (.int v) = .int v := by
  rcases h with rfl | rfl <;> rfl
theorem jfb {v : Int32} (h : v = 0 ∨ v = 1) : fits .boolean (.int v) = true := by
  rcases h with rfl | rfl <;> rfl
theorem jin_X0 : ∀ w ∈ wsX00, w ∈ jGW := by decide +kernel
theorem jin_X2 : ∀ w ∈ wsX20, w ∈ jGW := by decide +kernel
theorem jin_X3 : ∀ w ∈ wsX30, w ∈ jGW := by decide +kernel
theorem jin_X4 : ∀ w ∈ wsX40, w ∈ jGW := by decide +kernel
theorem jin_X5 : ∀ w ∈ wsX50, w ∈ jGW := by decide +kernel
section JR
variable {p : Program} {l : Launch} {e : Env} {R : Room} {s : State} {m : MethodId} {args : Array Value} {below : List Frame} {meth : Method} {c : Code} {H : Heap} {locs : List Loc} {cells slots : Nat} {Q : State → Prop} {cc : ByteArray} {pc : Nat} {ls : Array Slot} {rest : List Value} {D : va_G} {tys : List (ClassId × FieldType)} {ws : va_W} {A : Nat → Prop} {H0 : Heap} {a : Nat} {G : JG}
theorem j_irem (hx : p.tables.exec = Jvm.exec) (hb : c.code = cc) {x y : Int32} (hdg : decode cc pc = .ok (.irem, 1)) (hne : ¬ y = 0) (k : W p l e R s m args below meth c H locs cells slots Q (F0 m (pc + 1) ls (.int (jrem x y) :: rest))) : W p l e R s m args below meth c H locs cells slots Q (F0 m pc ls (.int y :: .int x :: rest)) := lv_irem hx hb hdg hne k
theorem j_iushr (hx : p.tables.exec = Jvm.exec) (hb : c.code = cc) {x y : Int32} (hdg : decode cc pc = .ok (.iushr, 1)) (k : W p l e R s m args below meth c H locs cells slots Q (F0 m (pc + 1) ls (.int (jushr x y) :: rest))) : W p l e R s m args below meth c H locs cells slots Q (F0 m pc ls (.int y :: .int x :: rest)) := lv_iushr hx hb hdg rfl k
theorem gs_X0_9 (hx : p.tables.exec = Jvm.exec) (hb : c.code = cc) (hts : ∀ w ∈ jGW, w.before args s = true) (hown : s.vm.findClass RX0 = some m.cls) (hZ : jZ G A s s.heap) (hS : va_S A s.heap H locs) (hdg : decode cc pc = .ok (.getstatic 9, 3)) (kk : W p l e R s m args below meth c H locs cells slots Q (F0 m (pc + 3) ls (.ref (G.1 0) :: rest))) : W p l e R s m args below meth c H locs cells slots Q (F0 m pc ls rest) := va_getsN (C := "JudgedDeposits") (n := "HOME_AT_FIRST") (d := "[I") hx hb (hZ.1 0 _ rfl).1 hS hown (va_Nw.use rfl (hZ.2.2.2.2.1 (.fieldLinkNest RX0 9 "JudgedDeposits" "HOME_AT_FIRST" "[I" "JudgedDeposits") (List.mem_of_getElem? (i := 90) (by decide +kernel)) rfl)) (fun _ h => h) hdg kk
theorem gf_X0_18 (hx : p.tables.exec = Jvm.exec) (hb : c.code = cc) (hts : ∀ w ∈ jGW, w.before args s = true) (hown : s.vm.findClass RX0 = some m.cls) (hK : va_K D vwCl tys s) (hZ : jZ G A s s.heap) (hP : va_P D vwCl ws H) (q0 : Nat) {fs : List Value} (he : ws[q0]? = some (a, .inr (0, fs))) {v : Value} (hv : fs[0]? = some v) (hdg : decode cc pc = .ok (.getfield 18, 3)) (kk : W p l e R s m args below meth c H locs cells slots Q (F0 m (pc + 3) ls (v :: rest))) : W p l e R s m args below meth c H locs cells slots Q (F0 m pc ls (.ref a :: rest)) := va_get (C := RX0) (T := TX0) (N := 7) hx hb hts jin_X0 hown hK hP q0 he rfl 0 (by decide) (hts (.fieldLink RX0 18 "JudgedDeposits$Estate" "home" "[I") (jq 102 (by decide +kernel) rfl)) (fun _ h9 => h9) hv hdg kk
theorem gf_X4_64 (hx : p.tables.exec = Jvm.exec) (hb : c.code = cc) (hts : ∀ w ∈ jGW, w.before args s = true) (hown : s.vm.findClass RX4 = some m.cls) (hK : va_K D vwCl tys s) (hZ : jZ G A s s.heap) (hP : va_P D vwCl ws H) (q0 : Nat) {fs : List Value} (he : ws[q0]? = some (a, .inr (0, fs))) {v : Value} (hv : fs[0]? = some v) (hdg : decode cc pc = .ok (.getfield 64, 3)) (kk : W p l e R s m args below meth c H locs cells slots Q (F0 m (pc + 3) ls (v :: rest))) : W p l e R s m args below meth c H locs cells slots Q (F0 m pc ls (.ref a :: rest)) := va_getN (C := RX0) (T := TX0) (N := 7) hx hb hts jin_X0 hown hK hP q0 he rfl 0 (by decide) (va_Nw.use rfl (hZ.2.2.2.2.1 (.fieldLinkNest RX4 64 "JudgedDeposits$Estate" "home" "[I" "JudgedDeposits") (List.mem_of_getElem? (i := 103) (by decide +kernel)) rfl)) (fun _ h9 => h9) hv hdg kk
theorem gf_X3_100 (hx : p.tables.exec = Jvm.exec) (hb : c.code = cc) (hts : ∀ w ∈ jGW, w.before args s = true) (hown : s.vm.findClass RX3 = some m.cls) (hK : va_K D vwCl tys s) (hZ : jZ G A s s.heap) (hP : va_P D vwCl ws H) (q0 : Nat) {fs : List Value} (he : ws[q0]? = some (a, .inr (0, fs))) {v : Value} (hv : fs[0]? = some v) (hdg : decode cc pc = .ok (.getfield 100, 3)) (kk : W p l e R s m args below meth c H locs cells slots Q (F0 m (pc + 3) ls (v :: rest))) : W p l e R s m args below meth c H locs cells slots Q (F0 m pc ls (.ref a :: rest)) := va_getN (C := RX0) (T := TX0) (N := 7) hx hb hts jin_X0 hown hK hP q0 he rfl 0 (by decide) (va_Nw.use rfl (hZ.2.2.2.2.1 (.fieldLinkNest RX3 100 "JudgedDeposits$Estate" "home" "[I" "JudgedDeposits") (List.mem_of_getElem? (i := 104) (by decide +kernel)) rfl)) (fun _ h9 => h9) hv hdg kk
theorem gf_X0_23 (hx : p.tables.exec = Jvm.exec) (hb : c.code = cc) (hts : ∀ w ∈ jGW, w.before args s = true) (hown : s.vm.findClass RX0 = some m.cls) (hK : va_K D vwCl tys s) (hZ : jZ G A s s.heap) (hP : va_P D vwCl ws H) (q0 : Nat) {fs : List Value} (he : ws[q0]? = some (a, .inr (0, fs))) {v : Value} (hv : fs[1]? = some v) (hdg : decode cc pc = .ok (.getfield 23, 3)) (kk : W p l e R s m args below meth c H locs cells slots Q (F0 m (pc + 3) ls (v :: rest))) : W p l e R s m args below meth c H locs cells slots Q (F0 m pc ls (.ref a :: rest)) := va_get (C := RX0) (T := TX0) (N := 7) hx hb hts jin_X0 hown hK hP q0 he rfl 1 (by decide) (hts (.fieldLink RX0 23 "JudgedDeposits$Estate" "list" "[I") (jq 105 (by decide +kernel) rfl)) (fun _ h9 => h9) hv hdg kk
theorem gf_X4_74 (hx : p.tables.exec = Jvm.exec) (hb : c.code = cc) (hts : ∀ w ∈ jGW, w.before args s = true) (hown : s.vm.findClass RX4 = some m.cls) (hK : va_K D vwCl tys s) (hZ : jZ G A s s.heap) (hP : va_P D vwCl ws H) (q0 : Nat) {fs : List Value} (he : ws[q0]? = some (a, .inr (0, fs))) {v : Value} (hv : fs[1]? = some v) (hdg : decode cc pc = .ok (.getfield 74, 3)) (kk : W p l e R s m args below meth c H locs cells slots Q (F0 m (pc + 3) ls (v :: rest))) : W p l e R s m args below meth c H locs cells slots Q (F0 m pc ls (.ref a :: rest)) := va_getN (C := RX0) (T := TX0) (N := 7) hx hb hts jin_X0 hown hK hP q0 he rfl 1 (by decide) (va_Nw.use rfl (hZ.2.2.2.2.1 (.fieldLinkNest RX4 74 "JudgedDeposits$Estate" "list" "[I" "JudgedDeposits") (List.mem_of_getElem? (i := 106) (by decide +kernel)) rfl)) (fun _ h9 => h9) hv hdg kk
theorem gf_X3_102 (hx : p.tables.exec = Jvm.exec) (hb : c.code = cc) (hts : ∀ w ∈ jGW, w.before args s = true) (hown : s.vm.findClass RX3 = some m.cls) (hK : va_K D vwCl tys s) (hZ : jZ G A s s.heap) (hP : va_P D vwCl ws H) (q0 : Nat) {fs : List Value} (he : ws[q0]? = some (a, .inr (0, fs))) {v : Value} (hv : fs[1]? = some v) (hdg : decode cc pc = .ok (.getfield 102, 3)) (kk : W p l e R s m args below meth c H locs cells slots Q (F0 m (pc + 3) ls (v :: rest))) : W p l e R s m args below meth c H locs cells slots Q (F0 m pc ls (.ref a :: rest)) := va_getN (C := RX0) (T := TX0) (N := 7) hx hb hts jin_X0 hown hK hP q0 he rfl 1 (by decide) (va_Nw.use rfl (hZ.2.2.2.2.1 (.fieldLinkNest RX3 102 "JudgedDeposits$Estate" "list" "[I" "JudgedDeposits") (List.mem_of_getElem? (i := 107) (by decide +kernel)) rfl)) (fun _ h9 => h9) hv hdg kk
theorem gf_X0_26 (hx : p.tables.exec = Jvm.exec) (hb : c.code = cc) (hts : ∀ w ∈ jGW, w.before args s = true) (hown : s.vm.findClass RX0 = some m.cls) (hK : va_K D vwCl tys s) (hZ : jZ G A s s.heap) (hP : va_P D vwCl ws H) (q0 : Nat) {fs : List Value} (he : ws[q0]? = some (a, .inr (0, fs))) {v : Value} (hv : fs[2]? = some v) (hdg : decode cc pc = .ok (.getfield 26, 3)) (kk : W p l e R s m args below meth c H locs cells slots Q (F0 m (pc + 3) ls (v :: rest))) : W p l e R s m args below meth c H locs cells slots Q (F0 m pc ls (.ref a :: rest)) := va_get (C := RX0) (T := TX0) (N := 7) hx hb hts jin_X0 hown hK hP q0 he rfl 2 (by decide) (hts (.fieldLink RX0 26 "JudgedDeposits$Estate" "traits" "[I") (jq 108 (by decide +kernel) rfl)) (fun _ h9 => h9) hv hdg kk
theorem gf_X0_29 (hx : p.tables.exec = Jvm.exec) (hb : c.code = cc) (hts : ∀ w ∈ jGW, w.before args s = true) (hown : s.vm.findClass RX0 = some m.cls) (hK : va_K D vwCl tys s) (hZ : jZ G A s s.heap) (hP : va_P D vwCl ws H) (q0 : Nat) {fs : List Value} (he : ws[q0]? = some (a, .inr (0, fs))) {v : Value} (hv : fs[3]? = some v) (hdg : decode cc pc = .ok (.getfield 29, 3)) (kk : W p l e R s m args below meth c H locs cells slots Q (F0 m (pc + 3) ls (v :: rest))) : W p l e R s m args below meth c H locs cells slots Q (F0 m pc ls (.ref a :: rest)) := va_get (C := RX0) (T := TX0) (N := 7) hx hb hts jin_X0 hown hK hP q0 he rfl 3 (by decide) (hts (.fieldLink RX0 29 "JudgedDeposits$Estate" "spots" "[I") (jq 109 (by decide +kernel) rfl)) (fun _ h9 => h9) hv hdg kk
theorem gf_X4_196 (hx : p.tables.exec = Jvm.exec) (hb : c.code = cc) (hts : ∀ w ∈ jGW, w.before args s = true) (hown : s.vm.findClass RX4 = some m.cls) (hK : va_K D vwCl tys s) (hZ : jZ G A s s.heap) (hP : va_P D vwCl ws H) (q0 : Nat) {fs : List Value} (he : ws[q0]? = some (a, .inr (0, fs))) {v : Value} (hv : fs[3]? = some v) (hdg : decode cc pc = .ok (.getfield 196, 3)) (kk : W p l e R s m args below meth c H locs cells slots Q (F0 m (pc + 3) ls (v :: rest))) : W p l e R s m args below meth c H locs cells slots Q (F0 m pc ls (.ref a :: rest)) := va_getN (C := RX0) (T := TX0) (N := 7) hx hb hts jin_X0 hown hK hP q0 he rfl 3 (by decide) (va_Nw.use rfl (hZ.2.2.2.2.1 (.fieldLinkNest RX4 196 "JudgedDeposits$Estate" "spots" "[I" "JudgedDeposits") (List.mem_of_getElem? (i := 110) (by decide +kernel)) rfl)) (fun _ h9 => h9) hv hdg kk
theorem gf_X0_32 (hx : p.tables.exec = Jvm.exec) (hb : c.code = cc) (hts : ∀ w ∈ jGW, w.before args s = true) (hown : s.vm.findClass RX0 = some m.cls) (hK : va_K D vwCl tys s) (hZ : jZ G A s s.heap) (hP : va_P D vwCl ws H) (q0 : Nat) {fs : List Value} (he : ws[q0]? = some (a, .inr (0, fs))) {v : Value} (hv : fs[4]? = some v) (hdg : decode cc pc = .ok (.getfield 32, 3)) (kk : W p l e R s m args below meth c H locs cells slots Q (F0 m (pc + 3) ls (v :: rest))) : W p l e R s m args below meth c H locs cells slots Q (F0 m pc ls (.ref a :: rest)) := va_get (C := RX0) (T := TX0) (N := 7) hx hb hts jin_X0 hown hK hP q0 he rfl 4 (by decide) (hts (.fieldLink RX0 32 "JudgedDeposits$Estate" "things" "I") (jq 111 (by decide +kernel) rfl)) (fun _ h9 => h9) hv hdg kk
theorem pf_X0_32 (hx : p.tables.exec = Jvm.exec) (hb : c.code = cc) (hts : ∀ w ∈ jGW, w.before args s = true) (hown : s.vm.findClass RX0 = some m.cls) (hK : va_K D vwCl tys s) (hZ : jZ G A s s.heap) (hP : va_P D vwCl ws H) (hD : va_D A ws) (hS : va_S A s.heap H locs) (q0 : Nat) {fs : List Value} (he : ws[q0]? = some (a, .inr (0, fs))) {v : Value} (hn : narrow .int v = v) (hfit : fits .int v = true) (hl : 4 < fs.length) (hdg : decode cc pc = .ok (.putfield 32, 3)) (kk : ∀ (H1 : Heap) (locs1 : List Loc), va_P D vwCl (ws.set q0 (a, .inr (0, fs.set 4 v))) H1 → va_D A (ws.set q0 (a, .inr (0, fs.set 4 v))) → va_S A s.heap H1 locs1 → W p l e R s m args below meth c H1 locs1 cells slots Q (F0 m (pc + 3) ls rest)) : W p l e R s m args below meth c H locs cells slots Q (F0 m pc ls (v :: .ref a :: rest)) := va_put (ty := .int) (C := RX0) (T := TX0) (N := 7) hx hb hts jin_X0 tyX0 tyX0_ok nmX0 hown hK hP hD hS q0 he rfl 4 (by decide) (hts (.fieldLink RX0 32 "JudgedDeposits$Estate" "things" "I") (jq 111 (by decide +kernel) rfl)) (fun _ h9 => h9) rfl (by decide +kernel) hn hfit hl hdg kk
theorem gf_X3_70 (hx : p.tables.exec = Jvm.exec) (hb : c.code = cc) (hts : ∀ w ∈ jGW, w.before args s = true) (hown : s.vm.findClass RX3 = some m.cls) (hK : va_K D vwCl tys s) (hZ : jZ G A s s.heap) (hP : va_P D vwCl ws H) (q0 : Nat) {fs : List Value} (he : ws[q0]? = some (a, .inr (0, fs))) {v : Value} (hv : fs[4]? = some v) (hdg : decode cc pc = .ok (.getfield 70, 3)) (kk : W p l e R s m args below meth c H locs cells slots Q (F0 m (pc + 3) ls (v :: rest))) : W p l e R s m args below meth c H locs cells slots Q (F0 m pc ls (.ref a :: rest)) := va_getN (C := RX0) (T := TX0) (N := 7) hx hb hts jin_X0 hown hK hP q0 he rfl 4 (by decide) (va_Nw.use rfl (hZ.2.2.2.2.1 (.fieldLinkNest RX3 70 "JudgedDeposits$Estate" "things" "I" "JudgedDeposits") (List.mem_of_getElem? (i := 112) (by decide +kernel)) rfl)) (fun _ h9 => h9) hv hdg kk
theorem gf_X4_87 (hx : p.tables.exec = Jvm.exec) (hb : c.code = cc) (hts : ∀ w ∈ jGW, w.before args s = true) (hown : s.vm.findClass RX4 = some m.cls) (hK : va_K D vwCl tys s) (hZ : jZ G A s s.heap) (hP : va_P D vwCl ws H) (q0 : Nat) {fs : List Value} (he : ws[q0]? = some (a, .inr (0, fs))) {v : Value} (hv : fs[4]? = some v) (hdg : decode cc pc = .ok (.getfield 87, 3)) (kk : W p l e R s m args below meth c H locs cells slots Q (F0 m (pc + 3) ls (v :: rest))) : W p l e R s m args below meth c H locs cells slots Q (F0 m pc ls (.ref a :: rest)) := va_getN (C := RX0) (T := TX0) (N := 7) hx hb hts jin_X0 hown hK hP q0 he rfl 4 (by decide) (va_Nw.use rfl (hZ.2.2.2.2.1 (.fieldLinkNest RX4 87 "JudgedDeposits$Estate" "things" "I" "JudgedDeposits") (List.mem_of_getElem? (i := 113) (by decide +kernel)) rfl)) (fun _ h9 => h9) hv hdg kk
theorem gf_X0_36 (hx : p.tables.exec = Jvm.exec) (hb : c.code = cc) (hts : ∀ w ∈ jGW, w.before args s = true) (hown : s.vm.findClass RX0 = some m.cls) (hK : va_K D vwCl tys s) (hZ : jZ G A s s.heap) (hP : va_P D vwCl ws H) (q0 : Nat) {fs : List Value} (he : ws[q0]? = some (a, .inr (0, fs))) {v : Value} (hv : fs[5]? = some v) (hdg : decode cc pc = .ok (.getfield 36, 3)) (kk : W p l e R s m args below meth c H locs cells slots Q (F0 m (pc + 3) ls (v :: rest))) : W p l e R s m args below meth c H locs cells slots Q (F0 m pc ls (.ref a :: rest)) := va_get (C := RX0) (T := TX0) (N := 7) hx hb hts jin_X0 hown hK hP q0 he rfl 5 (by decide) (hts (.fieldLink RX0 36 "JudgedDeposits$Estate" "day" "I") (jq 114 (by decide +kernel) rfl)) (fun _ h9 => h9) hv hdg kk
theorem pf_X0_36 (hx : p.tables.exec = Jvm.exec) (hb : c.code = cc) (hts : ∀ w ∈ jGW, w.before args s = true) (hown : s.vm.findClass RX0 = some m.cls) (hK : va_K D vwCl tys s) (hZ : jZ G A s s.heap) (hP : va_P D vwCl ws H) (hD : va_D A ws) (hS : va_S A s.heap H locs) (q0 : Nat) {fs : List Value} (he : ws[q0]? = some (a, .inr (0, fs))) {v : Value} (hn : narrow .int v = v) (hfit : fits .int v = true) (hl : 5 < fs.length) (hdg : decode cc pc = .ok (.putfield 36, 3)) (kk : ∀ (H1 : Heap) (locs1 : List Loc), va_P D vwCl (ws.set q0 (a, .inr (0, fs.set 5 v))) H1 → va_D A (ws.set q0 (a, .inr (0, fs.set 5 v))) → va_S A s.heap H1 locs1 → W p l e R s m args below meth c H1 locs1 cells slots Q (F0 m (pc + 3) ls rest)) : W p l e R s m args below meth c H locs cells slots Q (F0 m pc ls (v :: .ref a :: rest)) := va_put (ty := .int) (C := RX0) (T := TX0) (N := 7) hx hb hts jin_X0 tyX0 tyX0_ok nmX0 hown hK hP hD hS q0 he rfl 5 (by decide) (hts (.fieldLink RX0 36 "JudgedDeposits$Estate" "day" "I") (jq 114 (by decide +kernel) rfl)) (fun _ h9 => h9) rfl (by decide +kernel) hn hfit hl hdg kk
theorem gf_X4_110 (hx : p.tables.exec = Jvm.exec) (hb : c.code = cc) (hts : ∀ w ∈ jGW, w.before args s = true) (hown : s.vm.findClass RX4 = some m.cls) (hK : va_K D vwCl tys s) (hZ : jZ G A s s.heap) (hP : va_P D vwCl ws H) (q0 : Nat) {fs : List Value} (he : ws[q0]? = some (a, .inr (0, fs))) {v : Value} (hv : fs[5]? = some v) (hdg : decode cc pc = .ok (.getfield 110, 3)) (kk : W p l e R s m args below meth c H locs cells slots Q (F0 m (pc + 3) ls (v :: rest))) : W p l e R s m args below meth c H locs cells slots Q (F0 m pc ls (.ref a :: rest)) := va_getN (C := RX0) (T := TX0) (N := 7) hx hb hts jin_X0 hown hK hP q0 he rfl 5 (by decide) (va_Nw.use rfl (hZ.2.2.2.2.1 (.fieldLinkNest RX4 110 "JudgedDeposits$Estate" "day" "I" "JudgedDeposits") (List.mem_of_getElem? (i := 115) (by decide +kernel)) rfl)) (fun _ h9 => h9) hv hdg kk
theorem gf_X0_39 (hx : p.tables.exec = Jvm.exec) (hb : c.code = cc) (hts : ∀ w ∈ jGW, w.before args s = true) (hown : s.vm.findClass RX0 = some m.cls) (hK : va_K D vwCl tys s) (hZ : jZ G A s s.heap) (hP : va_P D vwCl ws H) (q0 : Nat) {fs : List Value} (he : ws[q0]? = some (a, .inr (0, fs))) {v : Value} (hv : fs[6]? = some v) (hdg : decode cc pc = .ok (.getfield 39, 3)) (kk : W p l e R s m args below meth c H locs cells slots Q (F0 m (pc + 3) ls (v :: rest))) : W p l e R s m args below meth c H locs cells slots Q (F0 m pc ls (.ref a :: rest)) := va_get (C := RX0) (T := TX0) (N := 7) hx hb hts jin_X0 hown hK hP q0 he rfl 6 (by decide) (hts (.fieldLink RX0 39 "JudgedDeposits$Estate" "z" "I") (jq 116 (by decide +kernel) rfl)) (fun _ h9 => h9) hv hdg kk
theorem pf_X0_39 (hx : p.tables.exec = Jvm.exec) (hb : c.code = cc) (hts : ∀ w ∈ jGW, w.before args s = true) (hown : s.vm.findClass RX0 = some m.cls) (hK : va_K D vwCl tys s) (hZ : jZ G A s s.heap) (hP : va_P D vwCl ws H) (hD : va_D A ws) (hS : va_S A s.heap H locs) (q0 : Nat) {fs : List Value} (he : ws[q0]? = some (a, .inr (0, fs))) {v : Value} (hn : narrow .int v = v) (hfit : fits .int v = true) (hl : 6 < fs.length) (hdg : decode cc pc = .ok (.putfield 39, 3)) (kk : ∀ (H1 : Heap) (locs1 : List Loc), va_P D vwCl (ws.set q0 (a, .inr (0, fs.set 6 v))) H1 → va_D A (ws.set q0 (a, .inr (0, fs.set 6 v))) → va_S A s.heap H1 locs1 → W p l e R s m args below meth c H1 locs1 cells slots Q (F0 m (pc + 3) ls rest)) : W p l e R s m args below meth c H locs cells slots Q (F0 m pc ls (v :: .ref a :: rest)) := va_put (ty := .int) (C := RX0) (T := TX0) (N := 7) hx hb hts jin_X0 tyX0 tyX0_ok nmX0 hown hK hP hD hS q0 he rfl 6 (by decide) (hts (.fieldLink RX0 39 "JudgedDeposits$Estate" "z" "I") (jq 116 (by decide +kernel) rfl)) (fun _ h9 => h9) rfl (by decide +kernel) hn hfit hl hdg kk
theorem gf_X4_179 (hx : p.tables.exec = Jvm.exec) (hb : c.code = cc) (hts : ∀ w ∈ jGW, w.before args s = true) (hown : s.vm.findClass RX4 = some m.cls) (hK : va_K D vwCl tys s) (hZ : jZ G A s s.heap) (hP : va_P D vwCl ws H) (q0 : Nat) {fs : List Value} (he : ws[q0]? = some (a, .inr (0, fs))) {v : Value} (hv : fs[6]? = some v) (hdg : decode cc pc = .ok (.getfield 179, 3)) (kk : W p l e R s m args below meth c H locs cells slots Q (F0 m (pc + 3) ls (v :: rest))) : W p l e R s m args below meth c H locs cells slots Q (F0 m pc ls (.ref a :: rest)) := va_getN (C := RX0) (T := TX0) (N := 7) hx hb hts jin_X0 hown hK hP q0 he rfl 6 (by decide) (va_Nw.use rfl (hZ.2.2.2.2.1 (.fieldLinkNest RX4 179 "JudgedDeposits$Estate" "z" "I" "JudgedDeposits") (List.mem_of_getElem? (i := 117) (by decide +kernel)) rfl)) (fun _ h9 => h9) hv hdg kk
theorem pf_X4_179 (hx : p.tables.exec = Jvm.exec) (hb : c.code = cc) (hts : ∀ w ∈ jGW, w.before args s = true) (hown : s.vm.findClass RX4 = some m.cls) (hK : va_K D vwCl tys s) (hZ : jZ G A s s.heap) (hP : va_P D vwCl ws H) (hD : va_D A ws) (hS : va_S A s.heap H locs) (q0 : Nat) {fs : List Value} (he : ws[q0]? = some (a, .inr (0, fs))) {v : Value} (hn : narrow .int v = v) (hfit : fits .int v = true) (hl : 6 < fs.length) (hdg : decode cc pc = .ok (.putfield 179, 3)) (kk : ∀ (H1 : Heap) (locs1 : List Loc), va_P D vwCl (ws.set q0 (a, .inr (0, fs.set 6 v))) H1 → va_D A (ws.set q0 (a, .inr (0, fs.set 6 v))) → va_S A s.heap H1 locs1 → W p l e R s m args below meth c H1 locs1 cells slots Q (F0 m (pc + 3) ls rest)) : W p l e R s m args below meth c H locs cells slots Q (F0 m pc ls (v :: .ref a :: rest)) := va_putN (ty := .int) (C := RX0) (T := TX0) (N := 7) hx hb hts jin_X0 tyX0 tyX0_ok nmX0 hown hK hP hD hS q0 he rfl 6 (by decide) (va_Nw.use rfl (hZ.2.2.2.2.1 (.fieldLinkNest RX4 179 "JudgedDeposits$Estate" "z" "I" "JudgedDeposits") (List.mem_of_getElem? (i := 117) (by decide +kernel)) rfl)) (fun _ h9 => h9) rfl (by decide +kernel) hn hfit hl hdg kk
theorem gf_X3_9 (hx : p.tables.exec = Jvm.exec) (hb : c.code = cc) (hts : ∀ w ∈ jGW, w.before args s = true) (hown : s.vm.findClass RX3 = some m.cls) (hK : va_K D vwCl tys s) (hZ : jZ G A s s.heap) (hP : va_P D vwCl ws H) (q0 : Nat) {fs : List Value} (he : ws[q0]? = some (a, .inr (2, fs))) {v : Value} (hv : fs[0]? = some v) (hdg : decode cc pc = .ok (.getfield 9, 3)) (kk : W p l e R s m args below meth c H locs cells slots Q (F0 m (pc + 3) ls (v :: rest))) : W p l e R s m args below meth c H locs cells slots Q (F0 m pc ls (.ref a :: rest)) := va_get (C := RX3) (T := TX3) (N := 7) hx hb hts jin_X3 hown hK hP q0 he rfl 0 (by decide) (hts (.fieldLink RX3 9 "JudgedDeposits$Tape" "bytes" "[B") (jq 140 (by decide +kernel) rfl)) (fun _ h9 => h9) hv hdg kk
theorem gf_X3_15 (hx : p.tables.exec = Jvm.exec) (hb : c.code = cc) (hts : ∀ w ∈ jGW, w.before args s = true) (hown : s.vm.findClass RX3 = some m.cls) (hK : va_K D vwCl tys s) (hZ : jZ G A s s.heap) (hP : va_P D vwCl ws H) (q0 : Nat) {fs : List Value} (he : ws[q0]? = some (a, .inr (2, fs))) {v : Value} (hv : fs[1]? = some v) (hdg : decode cc pc = .ok (.getfield 15, 3)) (kk : W p l e R s m args below meth c H locs cells slots Q (F0 m (pc + 3) ls (v :: rest))) : W p l e R s m args below meth c H locs cells slots Q (F0 m pc ls (.ref a :: rest)) := va_get (C := RX3) (T := TX3) (N := 7) hx hb hts jin_X3 hown hK hP q0 he rfl 1 (by decide) (hts (.fieldLink RX3 15 "JudgedDeposits$Tape" "length" "I") (jq 141 (by decide +kernel) rfl)) (fun _ h9 => h9) hv hdg kk
theorem pf_X3_15 (hx : p.tables.exec = Jvm.exec) (hb : c.code = cc) (hts : ∀ w ∈ jGW, w.before args s = true) (hown : s.vm.findClass RX3 = some m.cls) (hK : va_K D vwCl tys s) (hZ : jZ G A s s.heap) (hP : va_P D vwCl ws H) (hD : va_D A ws) (hS : va_S A s.heap H locs) (q0 : Nat) {fs : List Value} (he : ws[q0]? = some (a, .inr (2, fs))) {v : Value} (hn : narrow .int v = v) (hfit : fits .int v = true) (hl : 1 < fs.length) (hdg : decode cc pc = .ok (.putfield 15, 3)) (kk : ∀ (H1 : Heap) (locs1 : List Loc), va_P D vwCl (ws.set q0 (a, .inr (2, fs.set 1 v))) H1 → va_D A (ws.set q0 (a, .inr (2, fs.set 1 v))) → va_S A s.heap H1 locs1 → W p l e R s m args below meth c H1 locs1 cells slots Q (F0 m (pc + 3) ls rest)) : W p l e R s m args below meth c H locs cells slots Q (F0 m pc ls (v :: .ref a :: rest)) := va_put (ty := .int) (C := RX3) (T := TX3) (N := 7) hx hb hts jin_X3 tyX3 tyX3_ok nmX3 hown hK hP hD hS q0 he rfl 1 (by decide) (hts (.fieldLink RX3 15 "JudgedDeposits$Tape" "length" "I") (jq 141 (by decide +kernel) rfl)) (fun _ h9 => h9) rfl (by decide +kernel) hn hfit hl hdg kk
theorem gf_X4_182 (hx : p.tables.exec = Jvm.exec) (hb : c.code = cc) (hts : ∀ w ∈ jGW, w.before args s = true) (hown : s.vm.findClass RX4 = some m.cls) (hK : va_K D vwCl tys s) (hZ : jZ G A s s.heap) (hP : va_P D vwCl ws H) (q0 : Nat) {fs : List Value} (he : ws[q0]? = some (a, .inr (2, fs))) {v : Value} (hv : fs[1]? = some v) (hdg : decode cc pc = .ok (.getfield 182, 3)) (kk : W p l e R s m args below meth c H locs cells slots Q (F0 m (pc + 3) ls (v :: rest))) : W p l e R s m args below meth c H locs cells slots Q (F0 m pc ls (.ref a :: rest)) := va_getN (C := RX3) (T := TX3) (N := 7) hx hb hts jin_X3 hown hK hP q0 he rfl 1 (by decide) (va_Nw.use rfl (hZ.2.2.2.2.1 (.fieldLinkNest RX4 182 "JudgedDeposits$Tape" "length" "I" "JudgedDeposits") (List.mem_of_getElem? (i := 142) (by decide +kernel)) rfl)) (fun _ h9 => h9) hv hdg kk
theorem pf_X4_182 (hx : p.tables.exec = Jvm.exec) (hb : c.code = cc) (hts : ∀ w ∈ jGW, w.before args s = true) (hown : s.vm.findClass RX4 = some m.cls) (hK : va_K D vwCl tys s) (hZ : jZ G A s s.heap) (hP : va_P D vwCl ws H) (hD : va_D A ws) (hS : va_S A s.heap H locs) (q0 : Nat) {fs : List Value} (he : ws[q0]? = some (a, .inr (2, fs))) {v : Value} (hn : narrow .int v = v) (hfit : fits .int v = true) (hl : 1 < fs.length) (hdg : decode cc pc = .ok (.putfield 182, 3)) (kk : ∀ (H1 : Heap) (locs1 : List Loc), va_P D vwCl (ws.set q0 (a, .inr (2, fs.set 1 v))) H1 → va_D A (ws.set q0 (a, .inr (2, fs.set 1 v))) → va_S A s.heap H1 locs1 → W p l e R s m args below meth c H1 locs1 cells slots Q (F0 m (pc + 3) ls rest)) : W p l e R s m args below meth c H locs cells slots Q (F0 m pc ls (v :: .ref a :: rest)) := va_putN (ty := .int) (C := RX3) (T := TX3) (N := 7) hx hb hts jin_X3 tyX3 tyX3_ok nmX3 hown hK hP hD hS q0 he rfl 1 (by decide) (va_Nw.use rfl (hZ.2.2.2.2.1 (.fieldLinkNest RX4 182 "JudgedDeposits$Tape" "length" "I" "JudgedDeposits") (List.mem_of_getElem? (i := 142) (by decide +kernel)) rfl)) (fun _ h9 => h9) rfl (by decide +kernel) hn hfit hl hdg kk
theorem gf_X3_19 (hx : p.tables.exec = Jvm.exec) (hb : c.code = cc) (hts : ∀ w ∈ jGW, w.before args s = true) (hown : s.vm.findClass RX3 = some m.cls) (hK : va_K D vwCl tys s) (hZ : jZ G A s s.heap) (hP : va_P D vwCl ws H) (q0 : Nat) {fs : List Value} (he : ws[q0]? = some (a, .inr (2, fs))) {v : Value} (hv : fs[2]? = some v) (hdg : decode cc pc = .ok (.getfield 19, 3)) (kk : W p l e R s m args below meth c H locs cells slots Q (F0 m (pc + 3) ls (v :: rest))) : W p l e R s m args below meth c H locs cells slots Q (F0 m pc ls (.ref a :: rest)) := va_get (C := RX3) (T := TX3) (N := 7) hx hb hts jin_X3 hown hK hP q0 he rfl 2 (by decide) (hts (.fieldLink RX3 19 "JudgedDeposits$Tape" "sort" "I") (jq 143 (by decide +kernel) rfl)) (fun _ h9 => h9) hv hdg kk
theorem pf_X3_19 (hx : p.tables.exec = Jvm.exec) (hb : c.code = cc) (hts : ∀ w ∈ jGW, w.before args s = true) (hown : s.vm.findClass RX3 = some m.cls) (hK : va_K D vwCl tys s) (hZ : jZ G A s s.heap) (hP : va_P D vwCl ws H) (hD : va_D A ws) (hS : va_S A s.heap H locs) (q0 : Nat) {fs : List Value} (he : ws[q0]? = some (a, .inr (2, fs))) {v : Value} (hn : narrow .int v = v) (hfit : fits .int v = true) (hl : 2 < fs.length) (hdg : decode cc pc = .ok (.putfield 19, 3)) (kk : ∀ (H1 : Heap) (locs1 : List Loc), va_P D vwCl (ws.set q0 (a, .inr (2, fs.set 2 v))) H1 → va_D A (ws.set q0 (a, .inr (2, fs.set 2 v))) → va_S A s.heap H1 locs1 → W p l e R s m args below meth c H1 locs1 cells slots Q (F0 m (pc + 3) ls rest)) : W p l e R s m args below meth c H locs cells slots Q (F0 m pc ls (v :: .ref a :: rest)) := va_put (ty := .int) (C := RX3) (T := TX3) (N := 7) hx hb hts jin_X3 tyX3 tyX3_ok nmX3 hown hK hP hD hS q0 he rfl 2 (by decide) (hts (.fieldLink RX3 19 "JudgedDeposits$Tape" "sort" "I") (jq 143 (by decide +kernel) rfl)) (fun _ h9 => h9) rfl (by decide +kernel) hn hfit hl hdg kk
theorem gf_X3_22 (hx : p.tables.exec = Jvm.exec) (hb : c.code = cc) (hts : ∀ w ∈ jGW, w.before args s = true) (hown : s.vm.findClass RX3 = some m.cls) (hK : va_K D vwCl tys s) (hZ : jZ G A s s.heap) (hP : va_P D vwCl ws H) (q0 : Nat) {fs : List Value} (he : ws[q0]? = some (a, .inr (2, fs))) {v : Value} (hv : fs[3]? = some v) (hdg : decode cc pc = .ok (.getfield 22, 3)) (kk : W p l e R s m args below meth c H locs cells slots Q (F0 m (pc + 3) ls (v :: rest))) : W p l e R s m args below meth c H locs cells slots Q (F0 m pc ls (.ref a :: rest)) := va_get (C := RX3) (T := TX3) (N := 7) hx hb hts jin_X3 hown hK hP q0 he rfl 3 (by decide) (hts (.fieldLink RX3 22 "JudgedDeposits$Tape" "begin" "I") (jq 144 (by decide +kernel) rfl)) (fun _ h9 => h9) hv hdg kk
theorem pf_X3_22 (hx : p.tables.exec = Jvm.exec) (hb : c.code = cc) (hts : ∀ w ∈ jGW, w.before args s = true) (hown : s.vm.findClass RX3 = some m.cls) (hK : va_K D vwCl tys s) (hZ : jZ G A s s.heap) (hP : va_P D vwCl ws H) (hD : va_D A ws) (hS : va_S A s.heap H locs) (q0 : Nat) {fs : List Value} (he : ws[q0]? = some (a, .inr (2, fs))) {v : Value} (hn : narrow .int v = v) (hfit : fits .int v = true) (hl : 3 < fs.length) (hdg : decode cc pc = .ok (.putfield 22, 3)) (kk : ∀ (H1 : Heap) (locs1 : List Loc), va_P D vwCl (ws.set q0 (a, .inr (2, fs.set 3 v))) H1 → va_D A (ws.set q0 (a, .inr (2, fs.set 3 v))) → va_S A s.heap H1 locs1 → W p l e R s m args below meth c H1 locs1 cells slots Q (F0 m (pc + 3) ls rest)) : W p l e R s m args below meth c H locs cells slots Q (F0 m pc ls (v :: .ref a :: rest)) := va_put (ty := .int) (C := RX3) (T := TX3) (N := 7) hx hb hts jin_X3 tyX3 tyX3_ok nmX3 hown hK hP hD hS q0 he rfl 3 (by decide) (hts (.fieldLink RX3 22 "JudgedDeposits$Tape" "begin" "I") (jq 144 (by decide +kernel) rfl)) (fun _ h9 => h9) rfl (by decide +kernel) hn hfit hl hdg kk
theorem gf_X3_25 (hx : p.tables.exec = Jvm.exec) (hb : c.code = cc) (hts : ∀ w ∈ jGW, w.before args s = true) (hown : s.vm.findClass RX3 = some m.cls) (hK : va_K D vwCl tys s) (hZ : jZ G A s s.heap) (hP : va_P D vwCl ws H) (q0 : Nat) {fs : List Value} (he : ws[q0]? = some (a, .inr (2, fs))) {v : Value} (hv : fs[4]? = some v) (hdg : decode cc pc = .ok (.getfield 25, 3)) (kk : W p l e R s m args below meth c H locs cells slots Q (F0 m (pc + 3) ls (v :: rest))) : W p l e R s m args below meth c H locs cells slots Q (F0 m pc ls (.ref a :: rest)) := va_get (C := RX3) (T := TX3) (N := 7) hx hb hts jin_X3 hown hK hP q0 he rfl 4 (by decide) (hts (.fieldLink RX3 25 "JudgedDeposits$Tape" "end" "I") (jq 145 (by decide +kernel) rfl)) (fun _ h9 => h9) hv hdg kk
theorem pf_X3_25 (hx : p.tables.exec = Jvm.exec) (hb : c.code = cc) (hts : ∀ w ∈ jGW, w.before args s = true) (hown : s.vm.findClass RX3 = some m.cls) (hK : va_K D vwCl tys s) (hZ : jZ G A s s.heap) (hP : va_P D vwCl ws H) (hD : va_D A ws) (hS : va_S A s.heap H locs) (q0 : Nat) {fs : List Value} (he : ws[q0]? = some (a, .inr (2, fs))) {v : Value} (hn : narrow .int v = v) (hfit : fits .int v = true) (hl : 4 < fs.length) (hdg : decode cc pc = .ok (.putfield 25, 3)) (kk : ∀ (H1 : Heap) (locs1 : List Loc), va_P D vwCl (ws.set q0 (a, .inr (2, fs.set 4 v))) H1 → va_D A (ws.set q0 (a, .inr (2, fs.set 4 v))) → va_S A s.heap H1 locs1 → W p l e R s m args below meth c H1 locs1 cells slots Q (F0 m (pc + 3) ls rest)) : W p l e R s m args below meth c H locs cells slots Q (F0 m pc ls (v :: .ref a :: rest)) := va_put (ty := .int) (C := RX3) (T := TX3) (N := 7) hx hb hts jin_X3 tyX3 tyX3_ok nmX3 hown hK hP hD hS q0 he rfl 4 (by decide) (hts (.fieldLink RX3 25 "JudgedDeposits$Tape" "end" "I") (jq 145 (by decide +kernel) rfl)) (fun _ h9 => h9) rfl (by decide +kernel) hn hfit hl hdg kk
theorem gf_X3_28 (hx : p.tables.exec = Jvm.exec) (hb : c.code = cc) (hts : ∀ w ∈ jGW, w.before args s = true) (hown : s.vm.findClass RX3 = some m.cls) (hK : va_K D vwCl tys s) (hZ : jZ G A s s.heap) (hP : va_P D vwCl ws H) (q0 : Nat) {fs : List Value} (he : ws[q0]? = some (a, .inr (2, fs))) {v : Value} (hv : fs[5]? = some v) (hdg : decode cc pc = .ok (.getfield 28, 3)) (kk : W p l e R s m args below meth c H locs cells slots Q (F0 m (pc + 3) ls (v :: rest))) : W p l e R s m args below meth c H locs cells slots Q (F0 m pc ls (.ref a :: rest)) := va_get (C := RX3) (T := TX3) (N := 7) hx hb hts jin_X3 hown hK hP q0 he rfl 5 (by decide) (hts (.fieldLink RX3 28 "JudgedDeposits$Tape" "number" "I") (jq 146 (by decide +kernel) rfl)) (fun _ h9 => h9) hv hdg kk
theorem pf_X3_28 (hx : p.tables.exec = Jvm.exec) (hb : c.code = cc) (hts : ∀ w ∈ jGW, w.before args s = true) (hown : s.vm.findClass RX3 = some m.cls) (hK : va_K D vwCl tys s) (hZ : jZ G A s s.heap) (hP : va_P D vwCl ws H) (hD : va_D A ws) (hS : va_S A s.heap H locs) (q0 : Nat) {fs : List Value} (he : ws[q0]? = some (a, .inr (2, fs))) {v : Value} (hn : narrow .int v = v) (hfit : fits .int v = true) (hl : 5 < fs.length) (hdg : decode cc pc = .ok (.putfield 28, 3)) (kk : ∀ (H1 : Heap) (locs1 : List Loc), va_P D vwCl (ws.set q0 (a, .inr (2, fs.set 5 v))) H1 → va_D A (ws.set q0 (a, .inr (2, fs.set 5 v))) → va_S A s.heap H1 locs1 → W p l e R s m args below meth c H1 locs1 cells slots Q (F0 m (pc + 3) ls rest)) : W p l e R s m args below meth c H locs cells slots Q (F0 m pc ls (v :: .ref a :: rest)) := va_put (ty := .int) (C := RX3) (T := TX3) (N := 7) hx hb hts jin_X3 tyX3 tyX3_ok nmX3 hown hK hP hD hS q0 he rfl 5 (by decide) (hts (.fieldLink RX3 28 "JudgedDeposits$Tape" "number" "I") (jq 146 (by decide +kernel) rfl)) (fun _ h9 => h9) rfl (by decide +kernel) hn hfit hl hdg kk
theorem gf_X3_31 (hx : p.tables.exec = Jvm.exec) (hb : c.code = cc) (hts : ∀ w ∈ jGW, w.before args s = true) (hown : s.vm.findClass RX3 = some m.cls) (hK : va_K D vwCl tys s) (hZ : jZ G A s s.heap) (hP : va_P D vwCl ws H) (q0 : Nat) {fs : List Value} (he : ws[q0]? = some (a, .inr (2, fs))) {v : Value} (hv : fs[6]? = some v) (hdg : decode cc pc = .ok (.getfield 31, 3)) (kk : W p l e R s m args below meth c H locs cells slots Q (F0 m (pc + 3) ls (v :: rest))) : W p l e R s m args below meth c H locs cells slots Q (F0 m pc ls (.ref a :: rest)) := va_get (C := RX3) (T := TX3) (N := 7) hx hb hts jin_X3 hown hK hP q0 he rfl 6 (by decide) (hts (.fieldLink RX3 31 "JudgedDeposits$Tape" "taken" "I") (jq 147 (by decide +kernel) rfl)) (fun _ h9 => h9) hv hdg kk
theorem pf_X3_31 (hx : p.tables.exec = Jvm.exec) (hb : c.code = cc) (hts : ∀ w ∈ jGW, w.before args s = true) (hown : s.vm.findClass RX3 = some m.cls) (hK : va_K D vwCl tys s) (hZ : jZ G A s s.heap) (hP : va_P D vwCl ws H) (hD : va_D A ws) (hS : va_S A s.heap H locs) (q0 : Nat) {fs : List Value} (he : ws[q0]? = some (a, .inr (2, fs))) {v : Value} (hn : narrow .int v = v) (hfit : fits .int v = true) (hl : 6 < fs.length) (hdg : decode cc pc = .ok (.putfield 31, 3)) (kk : ∀ (H1 : Heap) (locs1 : List Loc), va_P D vwCl (ws.set q0 (a, .inr (2, fs.set 6 v))) H1 → va_D A (ws.set q0 (a, .inr (2, fs.set 6 v))) → va_S A s.heap H1 locs1 → W p l e R s m args below meth c H1 locs1 cells slots Q (F0 m (pc + 3) ls rest)) : W p l e R s m args below meth c H locs cells slots Q (F0 m pc ls (v :: .ref a :: rest)) := va_put (ty := .int) (C := RX3) (T := TX3) (N := 7) hx hb hts jin_X3 tyX3 tyX3_ok nmX3 hown hK hP hD hS q0 he rfl 6 (by decide) (hts (.fieldLink RX3 31 "JudgedDeposits$Tape" "taken" "I") (jq 147 (by decide +kernel) rfl)) (fun _ h9 => h9) rfl (by decide +kernel) hn hfit hl hdg kk
theorem gf_X2_9 (hx : p.tables.exec = Jvm.exec) (hb : c.code = cc) (hts : ∀ w ∈ jGW, w.before args s = true) (hown : s.vm.findClass RX2 = some m.cls) (hK : va_K D vwCl tys s) (hZ : jZ G A s s.heap) (hP : va_P D vwCl ws H) (q0 : Nat) {fs : List Value} (he : ws[q0]? = some (a, .inr (1, fs))) {v : Value} (hv : fs[0]? = some v) (hdg : decode cc pc = .ok (.getfield 9, 3)) (kk : W p l e R s m args below meth c H locs cells slots Q (F0 m (pc + 3) ls (v :: rest))) : W p l e R s m args below meth c H locs cells slots Q (F0 m pc ls (.ref a :: rest)) := va_get (C := RX2) (T := TX2) (N := 3) hx hb hts jin_X2 hown hK hP q0 he rfl 0 (by decide) (hts (.fieldLink RX2 9 "JudgedDeposits$Sheet" "numbers" "[I") (jq 171 (by decide +kernel) rfl)) (fun _ h9 => h9) hv hdg kk
theorem gf_X4_226 (hx : p.tables.exec = Jvm.exec) (hb : c.code = cc) (hts : ∀ w ∈ jGW, w.before args s = true) (hown : s.vm.findClass RX4 = some m.cls) (hK : va_K D vwCl tys s) (hZ : jZ G A s s.heap) (hP : va_P D vwCl ws H) (q0 : Nat) {fs : List Value} (he : ws[q0]? = some (a, .inr (1, fs))) {v : Value} (hv : fs[0]? = some v) (hdg : decode cc pc = .ok (.getfield 226, 3)) (kk : W p l e R s m args below meth c H locs cells slots Q (F0 m (pc + 3) ls (v :: rest))) : W p l e R s m args below meth c H locs cells slots Q (F0 m pc ls (.ref a :: rest)) := va_getN (C := RX2) (T := TX2) (N := 3) hx hb hts jin_X2 hown hK hP q0 he rfl 0 (by decide) (va_Nw.use rfl (hZ.2.2.2.2.1 (.fieldLinkNest RX4 226 "JudgedDeposits$Sheet" "numbers" "[I" "JudgedDeposits") (List.mem_of_getElem? (i := 172) (by decide +kernel)) rfl)) (fun _ h9 => h9) hv hdg kk
theorem gf_X2_15 (hx : p.tables.exec = Jvm.exec) (hb : c.code = cc) (hts : ∀ w ∈ jGW, w.before args s = true) (hown : s.vm.findClass RX2 = some m.cls) (hK : va_K D vwCl tys s) (hZ : jZ G A s s.heap) (hP : va_P D vwCl ws H) (q0 : Nat) {fs : List Value} (he : ws[q0]? = some (a, .inr (1, fs))) {v : Value} (hv : fs[1]? = some v) (hdg : decode cc pc = .ok (.getfield 15, 3)) (kk : W p l e R s m args below meth c H locs cells slots Q (F0 m (pc + 3) ls (v :: rest))) : W p l e R s m args below meth c H locs cells slots Q (F0 m pc ls (.ref a :: rest)) := va_get (C := RX2) (T := TX2) (N := 3) hx hb hts jin_X2 hown hK hP q0 he rfl 1 (by decide) (hts (.fieldLink RX2 15 "JudgedDeposits$Sheet" "bits" "I") (jq 173 (by decide +kernel) rfl)) (fun _ h9 => h9) hv hdg kk
theorem pf_X2_15 (hx : p.tables.exec = Jvm.exec) (hb : c.code = cc) (hts : ∀ w ∈ jGW, w.before args s = true) (hown : s.vm.findClass RX2 = some m.cls) (hK : va_K D vwCl tys s) (hZ : jZ G A s s.heap) (hP : va_P D vwCl ws H) (hD : va_D A ws) (hS : va_S A s.heap H locs) (q0 : Nat) {fs : List Value} (he : ws[q0]? = some (a, .inr (1, fs))) {v : Value} (hn : narrow .int v = v) (hfit : fits .int v = true) (hl : 1 < fs.length) (hdg : decode cc pc = .ok (.putfield 15, 3)) (kk : ∀ (H1 : Heap) (locs1 : List Loc), va_P D vwCl (ws.set q0 (a, .inr (1, fs.set 1 v))) H1 → va_D A (ws.set q0 (a, .inr (1, fs.set 1 v))) → va_S A s.heap H1 locs1 → W p l e R s m args below meth c H1 locs1 cells slots Q (F0 m (pc + 3) ls rest)) : W p l e R s m args below meth c H locs cells slots Q (F0 m pc ls (v :: .ref a :: rest)) := va_put (ty := .int) (C := RX2) (T := TX2) (N := 3) hx hb hts jin_X2 tyX2 tyX2_ok nmX2 hown hK hP hD hS q0 he rfl 1 (by decide) (hts (.fieldLink RX2 15 "JudgedDeposits$Sheet" "bits" "I") (jq 173 (by decide +kernel) rfl)) (fun _ h9 => h9) rfl (by decide +kernel) hn hfit hl hdg kk
theorem gf_X4_220 (hx : p.tables.exec = Jvm.exec) (hb : c.code = cc) (hts : ∀ w ∈ jGW, w.before args s = true) (hown : s.vm.findClass RX4 = some m.cls) (hK : va_K D vwCl tys s) (hZ : jZ G A s s.heap) (hP : va_P D vwCl ws H) (q0 : Nat) {fs : List Value} (he : ws[q0]? = some (a, .inr (1, fs))) {v : Value} (hv : fs[1]? = some v) (hdg : decode cc pc = .ok (.getfield 220, 3)) (kk : W p l e R s m args below meth c H locs cells slots Q (F0 m (pc + 3) ls (v :: rest))) : W p l e R s m args below meth c H locs cells slots Q (F0 m pc ls (.ref a :: rest)) := va_getN (C := RX2) (T := TX2) (N := 3) hx hb hts jin_X2 hown hK hP q0 he rfl 1 (by decide) (va_Nw.use rfl (hZ.2.2.2.2.1 (.fieldLinkNest RX4 220 "JudgedDeposits$Sheet" "bits" "I" "JudgedDeposits") (List.mem_of_getElem? (i := 174) (by decide +kernel)) rfl)) (fun _ h9 => h9) hv hdg kk
theorem gf_X2_19 (hx : p.tables.exec = Jvm.exec) (hb : c.code = cc) (hts : ∀ w ∈ jGW, w.before args s = true) (hown : s.vm.findClass RX2 = some m.cls) (hK : va_K D vwCl tys s) (hZ : jZ G A s s.heap) (hP : va_P D vwCl ws H) (q0 : Nat) {fs : List Value} (he : ws[q0]? = some (a, .inr (1, fs))) {v : Value} (hv : fs[2]? = some v) (hdg : decode cc pc = .ok (.getfield 19, 3)) (kk : W p l e R s m args below meth c H locs cells slots Q (F0 m (pc + 3) ls (v :: rest))) : W p l e R s m args below meth c H locs cells slots Q (F0 m pc ls (.ref a :: rest)) := va_get (C := RX2) (T := TX2) (N := 3) hx hb hts jin_X2 hown hK hP q0 he rfl 2 (by decide) (hts (.fieldLink RX2 19 "JudgedDeposits$Sheet" "size" "I") (jq 175 (by decide +kernel) rfl)) (fun _ h9 => h9) hv hdg kk
theorem pf_X2_19 (hx : p.tables.exec = Jvm.exec) (hb : c.code = cc) (hts : ∀ w ∈ jGW, w.before args s = true) (hown : s.vm.findClass RX2 = some m.cls) (hK : va_K D vwCl tys s) (hZ : jZ G A s s.heap) (hP : va_P D vwCl ws H) (hD : va_D A ws) (hS : va_S A s.heap H locs) (q0 : Nat) {fs : List Value} (he : ws[q0]? = some (a, .inr (1, fs))) {v : Value} (hn : narrow .int v = v) (hfit : fits .int v = true) (hl : 2 < fs.length) (hdg : decode cc pc = .ok (.putfield 19, 3)) (kk : ∀ (H1 : Heap) (locs1 : List Loc), va_P D vwCl (ws.set q0 (a, .inr (1, fs.set 2 v))) H1 → va_D A (ws.set q0 (a, .inr (1, fs.set 2 v))) → va_S A s.heap H1 locs1 → W p l e R s m args below meth c H1 locs1 cells slots Q (F0 m (pc + 3) ls rest)) : W p l e R s m args below meth c H locs cells slots Q (F0 m pc ls (v :: .ref a :: rest)) := va_put (ty := .int) (C := RX2) (T := TX2) (N := 3) hx hb hts jin_X2 tyX2 tyX2_ok nmX2 hown hK hP hD hS q0 he rfl 2 (by decide) (hts (.fieldLink RX2 19 "JudgedDeposits$Sheet" "size" "I") (jq 175 (by decide +kernel) rfl)) (fun _ h9 => h9) rfl (by decide +kernel) hn hfit hl hdg kk
theorem gf_X4_212 (hx : p.tables.exec = Jvm.exec) (hb : c.code = cc) (hts : ∀ w ∈ jGW, w.before args s = true) (hown : s.vm.findClass RX4 = some m.cls) (hK : va_K D vwCl tys s) (hZ : jZ G A s s.heap) (hP : va_P D vwCl ws H) (q0 : Nat) {fs : List Value} (he : ws[q0]? = some (a, .inr (1, fs))) {v : Value} (hv : fs[2]? = some v) (hdg : decode cc pc = .ok (.getfield 212, 3)) (kk : W p l e R s m args below meth c H locs cells slots Q (F0 m (pc + 3) ls (v :: rest))) : W p l e R s m args below meth c H locs cells slots Q (F0 m pc ls (.ref a :: rest)) := va_getN (C := RX2) (T := TX2) (N := 3) hx hb hts jin_X2 hown hK hP q0 he rfl 2 (by decide) (va_Nw.use rfl (hZ.2.2.2.2.1 (.fieldLinkNest RX4 212 "JudgedDeposits$Sheet" "size" "I" "JudgedDeposits") (List.mem_of_getElem? (i := 176) (by decide +kernel)) rfl)) (fun _ h9 => h9) hv hdg kk
theorem gf_X4_10 (hx : p.tables.exec = Jvm.exec) (hb : c.code = cc) (hts : ∀ w ∈ jGW, w.before args s = true) (hown : s.vm.findClass RX4 = some m.cls) (hK : va_K D vwCl tys s) (hZ : jZ G A s s.heap) (hP : va_P D vwCl ws H) (q0 : Nat) {fs : List Value} (he : ws[q0]? = some (a, .inr (3, fs))) {v : Value} (hv : fs[0]? = some v) (hdg : decode cc pc = .ok (.getfield 10, 3)) (kk : W p l e R s m args below meth c H locs cells slots Q (F0 m (pc + 3) ls (v :: rest))) : W p l e R s m args below meth c H locs cells slots Q (F0 m pc ls (.ref a :: rest)) := va_get (C := RX4) (T := TX4) (N := 9) hx hb hts jin_X4 hown hK hP q0 he rfl 0 (by decide) (hts (.fieldLink RX4 10 "JudgedDeposits" "estate" "LJudgedDeposits$Estate;") (jq 184 (by decide +kernel) rfl)) (fun _ h9 => h9) hv hdg kk
theorem gf_X4_16 (hx : p.tables.exec = Jvm.exec) (hb : c.code = cc) (hts : ∀ w ∈ jGW, w.before args s = true) (hown : s.vm.findClass RX4 = some m.cls) (hK : va_K D vwCl tys s) (hZ : jZ G A s s.heap) (hP : va_P D vwCl ws H) (q0 : Nat) {fs : List Value} (he : ws[q0]? = some (a, .inr (3, fs))) {v : Value} (hv : fs[1]? = some v) (hdg : decode cc pc = .ok (.getfield 16, 3)) (kk : W p l e R s m args below meth c H locs cells slots Q (F0 m (pc + 3) ls (v :: rest))) : W p l e R s m args below meth c H locs cells slots Q (F0 m pc ls (.ref a :: rest)) := va_get (C := RX4) (T := TX4) (N := 9) hx hb hts jin_X4 hown hK hP q0 he rfl 1 (by decide) (hts (.fieldLink RX4 16 "JudgedDeposits" "kept" "LJudgedDeposits$Estate;") (jq 185 (by decide +kernel) rfl)) (fun _ h9 => h9) hv hdg kk
theorem gf_X4_19 (hx : p.tables.exec = Jvm.exec) (hb : c.code = cc) (hts : ∀ w ∈ jGW, w.before args s = true) (hown : s.vm.findClass RX4 = some m.cls) (hK : va_K D vwCl tys s) (hZ : jZ G A s s.heap) (hP : va_P D vwCl ws H) (q0 : Nat) {fs : List Value} (he : ws[q0]? = some (a, .inr (3, fs))) {v : Value} (hv : fs[2]? = some v) (hdg : decode cc pc = .ok (.getfield 19, 3)) (kk : W p l e R s m args below meth c H locs cells slots Q (F0 m (pc + 3) ls (v :: rest))) : W p l e R s m args below meth c H locs cells slots Q (F0 m pc ls (.ref a :: rest)) := va_get (C := RX4) (T := TX4) (N := 9) hx hb hts jin_X4 hown hK hP q0 he rfl 2 (by decide) (hts (.fieldLink RX4 19 "JudgedDeposits" "trial" "LJudgedDeposits$Estate;") (jq 186 (by decide +kernel) rfl)) (fun _ h9 => h9) hv hdg kk
theorem gf_X4_25 (hx : p.tables.exec = Jvm.exec) (hb : c.code = cc) (hts : ∀ w ∈ jGW, w.before args s = true) (hown : s.vm.findClass RX4 = some m.cls) (hK : va_K D vwCl tys s) (hZ : jZ G A s s.heap) (hP : va_P D vwCl ws H) (q0 : Nat) {fs : List Value} (he : ws[q0]? = some (a, .inr (3, fs))) {v : Value} (hv : fs[3]? = some v) (hdg : decode cc pc = .ok (.getfield 25, 3)) (kk : W p l e R s m args below meth c H locs cells slots Q (F0 m (pc + 3) ls (v :: rest))) : W p l e R s m args below meth c H locs cells slots Q (F0 m pc ls (.ref a :: rest)) := va_get (C := RX4) (T := TX4) (N := 9) hx hb hts jin_X4 hown hK hP q0 he rfl 3 (by decide) (hts (.fieldLink RX4 25 "JudgedDeposits" "tape" "LJudgedDeposits$Tape;") (jq 187 (by decide +kernel) rfl)) (fun _ h9 => h9) hv hdg kk
theorem gf_X4_31 (hx : p.tables.exec = Jvm.exec) (hb : c.code = cc) (hts : ∀ w ∈ jGW, w.before args s = true) (hown : s.vm.findClass RX4 = some m.cls) (hK : va_K D vwCl tys s) (hZ : jZ G A s s.heap) (hP : va_P D vwCl ws H) (q0 : Nat) {fs : List Value} (he : ws[q0]? = some (a, .inr (3, fs))) {v : Value} (hv : fs[4]? = some v) (hdg : decode cc pc = .ok (.getfield 31, 3)) (kk : W p l e R s m args below meth c H locs cells slots Q (F0 m (pc + 3) ls (v :: rest))) : W p l e R s m args below meth c H locs cells slots Q (F0 m pc ls (.ref a :: rest)) := va_get (C := RX4) (T := TX4) (N := 9) hx hb hts jin_X4 hown hK hP q0 he rfl 4 (by decide) (hts (.fieldLink RX4 31 "JudgedDeposits" "sheets" "[LJudgedDeposits$Sheet;") (jq 188 (by decide +kernel) rfl)) (fun _ h9 => h9) hv hdg kk
theorem gf_X4_35 (hx : p.tables.exec = Jvm.exec) (hb : c.code = cc) (hts : ∀ w ∈ jGW, w.before args s = true) (hown : s.vm.findClass RX4 = some m.cls) (hK : va_K D vwCl tys s) (hZ : jZ G A s s.heap) (hP : va_P D vwCl ws H) (q0 : Nat) {fs : List Value} (he : ws[q0]? = some (a, .inr (3, fs))) {v : Value} (hv : fs[5]? = some v) (hdg : decode cc pc = .ok (.getfield 35, 3)) (kk : W p l e R s m args below meth c H locs cells slots Q (F0 m (pc + 3) ls (v :: rest))) : W p l e R s m args below meth c H locs cells slots Q (F0 m pc ls (.ref a :: rest)) := va_get (C := RX4) (T := TX4) (N := 9) hx hb hts jin_X4 hown hK hP q0 he rfl 5 (by decide) (hts (.fieldLink RX4 35 "JudgedDeposits" "found" "[I") (jq 189 (by decide +kernel) rfl)) (fun _ h9 => h9) hv hdg kk
theorem gf_X4_39 (hx : p.tables.exec = Jvm.exec) (hb : c.code = cc) (hts : ∀ w ∈ jGW, w.before args s = true) (hown : s.vm.findClass RX4 = some m.cls) (hK : va_K D vwCl tys s) (hZ : jZ G A s s.heap) (hP : va_P D vwCl ws H) (q0 : Nat) {fs : List Value} (he : ws[q0]? = some (a, .inr (3, fs))) {v : Value} (hv : fs[6]? = some v) (hdg : decode cc pc = .ok (.getfield 39, 3)) (kk : W p l e R s m args below meth c H locs cells slots Q (F0 m (pc + 3) ls (v :: rest))) : W p l e R s m args below meth c H locs cells slots Q (F0 m pc ls (.ref a :: rest)) := va_get (C := RX4) (T := TX4) (N := 9) hx hb hts jin_X4 hown hK hP q0 he rfl 6 (by decide) (hts (.fieldLink RX4 39 "JudgedDeposits" "awards" "[I") (jq 190 (by decide +kernel) rfl)) (fun _ h9 => h9) hv hdg kk
theorem gf_X4_42 (hx : p.tables.exec = Jvm.exec) (hb : c.code = cc) (hts : ∀ w ∈ jGW, w.before args s = true) (hown : s.vm.findClass RX4 = some m.cls) (hK : va_K D vwCl tys s) (hZ : jZ G A s s.heap) (hP : va_P D vwCl ws H) (q0 : Nat) {fs : List Value} (he : ws[q0]? = some (a, .inr (3, fs))) {v : Value} (hv : fs[7]? = some v) (hdg : decode cc pc = .ok (.getfield 42, 3)) (kk : W p l e R s m args below meth c H locs cells slots Q (F0 m (pc + 3) ls (v :: rest))) : W p l e R s m args below meth c H locs cells slots Q (F0 m pc ls (.ref a :: rest)) := va_get (C := RX4) (T := TX4) (N := 9) hx hb hts jin_X4 hown hK hP q0 he rfl 7 (by decide) (hts (.fieldLink RX4 42 "JudgedDeposits" "worses" "[I") (jq 191 (by decide +kernel) rfl)) (fun _ h9 => h9) hv hdg kk
theorem gf_X4_45 (hx : p.tables.exec = Jvm.exec) (hb : c.code = cc) (hts : ∀ w ∈ jGW, w.before args s = true) (hown : s.vm.findClass RX4 = some m.cls) (hK : va_K D vwCl tys s) (hZ : jZ G A s s.heap) (hP : va_P D vwCl ws H) (q0 : Nat) {fs : List Value} (he : ws[q0]? = some (a, .inr (3, fs))) {v : Value} (hv : fs[8]? = some v) (hdg : decode cc pc = .ok (.getfield 45, 3)) (kk : W p l e R s m args below meth c H locs cells slots Q (F0 m (pc + 3) ls (v :: rest))) : W p l e R s m args below meth c H locs cells slots Q (F0 m pc ls (.ref a :: rest)) := va_get (C := RX4) (T := TX4) (N := 9) hx hb hts jin_X4 hown hK hP q0 he rfl 8 (by decide) (hts (.fieldLink RX4 45 "JudgedDeposits" "imageKept" "Z") (jq 192 (by decide +kernel) rfl)) (fun _ h9 => h9) hv hdg kk
theorem pf_X4_45 (hx : p.tables.exec = Jvm.exec) (hb : c.code = cc) (hts : ∀ w ∈ jGW, w.before args s = true) (hown : s.vm.findClass RX4 = some m.cls) (hK : va_K D vwCl tys s) (hZ : jZ G A s s.heap) (hP : va_P D vwCl ws H) (hD : va_D A ws) (hS : va_S A s.heap H locs) (q0 : Nat) {fs : List Value} (he : ws[q0]? = some (a, .inr (3, fs))) {v : Value} (hn : narrow .boolean v = v) (hfit : fits .boolean v = true) (hl : 8 < fs.length) (hdg : decode cc pc = .ok (.putfield 45, 3)) (kk : ∀ (H1 : Heap) (locs1 : List Loc), va_P D vwCl (ws.set q0 (a, .inr (3, fs.set 8 v))) H1 → va_D A (ws.set q0 (a, .inr (3, fs.set 8 v))) → va_S A s.heap H1 locs1 → W p l e R s m args below meth c H1 locs1 cells slots Q (F0 m (pc + 3) ls rest)) : W p l e R s m args below meth c H locs cells slots Q (F0 m pc ls (v :: .ref a :: rest)) := va_put (ty := .boolean) (C := RX4) (T := TX4) (N := 9) hx hb hts jin_X4 tyX4 tyX4_ok nmX4 hown hK hP hD hS q0 he rfl 8 (by decide) (hts (.fieldLink RX4 45 "JudgedDeposits" "imageKept" "Z") (jq 192 (by decide +kernel) rfl)) (fun _ h9 => h9) rfl (by decide +kernel) hn hfit hl hdg kk
theorem gs_X4_54 (hx : p.tables.exec = Jvm.exec) (hb : c.code = cc) (hts : ∀ w ∈ jGW, w.before args s = true) (hown : s.vm.findClass RX4 = some m.cls) (hZ : jZ G A s s.heap) (hS : va_S A s.heap H locs) (hdg : decode cc pc = .ok (.getstatic 54, 3)) (kk : W p l e R s m args below meth c H locs cells slots Q (F0 m (pc + 3) ls (.ref (G.1 1) :: rest))) : W p l e R s m args below meth c H locs cells slots Q (F0 m pc ls rest) := va_gets (C := "JudgedDeposits") (n := "HOME_LEAST") (d := "[I") hx hb (hZ.1 1 _ rfl).1 hS hown (hts (.fieldLink RX4 54 "JudgedDeposits" "HOME_LEAST" "[I") (jq 219 (by decide +kernel) rfl)) (fun _ h => h) hdg kk
theorem gs_X4_57 (hx : p.tables.exec = Jvm.exec) (hb : c.code = cc) (hts : ∀ w ∈ jGW, w.before args s = true) (hown : s.vm.findClass RX4 = some m.cls) (hZ : jZ G A s s.heap) (hS : va_S A s.heap H locs) (hdg : decode cc pc = .ok (.getstatic 57, 3)) (kk : W p l e R s m args below meth c H locs cells slots Q (F0 m (pc + 3) ls (.ref (G.1 2) :: rest))) : W p l e R s m args below meth c H locs cells slots Q (F0 m pc ls rest) := va_gets (C := "JudgedDeposits") (n := "HOME_MOST") (d := "[I") hx hb (hZ.1 2 _ rfl).1 hS hown (hts (.fieldLink RX4 57 "JudgedDeposits" "HOME_MOST" "[I") (jq 221 (by decide +kernel) rfl)) (fun _ h => h) hdg kk
theorem gs_X4_84 (hx : p.tables.exec = Jvm.exec) (hb : c.code = cc) (hts : ∀ w ∈ jGW, w.before args s = true) (hown : s.vm.findClass RX4 = some m.cls) (hZ : jZ G A s s.heap) (hS : va_S A s.heap H locs) (hdg : decode cc pc = .ok (.getstatic 84, 3)) (kk : W p l e R s m args below meth c H locs cells slots Q (F0 m (pc + 3) ls (.ref (G.1 3) :: rest))) : W p l e R s m args below meth c H locs cells slots Q (F0 m pc ls rest) := va_gets (C := "JudgedDeposits") (n := "TRAIT_MOST") (d := "[I") hx hb (hZ.1 3 _ rfl).1 hS hown (hts (.fieldLink RX4 84 "JudgedDeposits" "TRAIT_MOST" "[I") (jq 256 (by decide +kernel) rfl)) (fun _ h => h) hdg kk
theorem gs_X3_75 (hx : p.tables.exec = Jvm.exec) (hb : c.code = cc) (hts : ∀ w ∈ jGW, w.before args s = true) (hown : s.vm.findClass RX3 = some m.cls) (hZ : jZ G A s s.heap) (hS : va_S A s.heap H locs) (hdg : decode cc pc = .ok (.getstatic 75, 3)) (kk : W p l e R s m args below meth c H locs cells slots Q (F0 m (pc + 3) ls (.ref (G.1 3) :: rest))) : W p l e R s m args below meth c H locs cells slots Q (F0 m pc ls rest) := va_getsN (C := "JudgedDeposits") (n := "TRAIT_MOST") (d := "[I") hx hb (hZ.1 3 _ rfl).1 hS hown (va_Nw.use rfl (hZ.2.2.2.2.1 (.fieldLinkNest RX3 75 "JudgedDeposits" "TRAIT_MOST" "[I" "JudgedDeposits") (List.mem_of_getElem? (i := 613) (by decide +kernel)) rfl)) (fun _ h => h) hdg kk
theorem gs_X3_94 (hx : p.tables.exec = Jvm.exec) (hb : c.code = cc) (hts : ∀ w ∈ jGW, w.before args s = true) (hown : s.vm.findClass RX3 = some m.cls) (hZ : jZ G A s s.heap) (hS : va_S A s.heap H locs) (hdg : decode cc pc = .ok (.getstatic 94, 3)) (kk : W p l e R s m args below meth c H locs cells slots Q (F0 m (pc + 3) ls (.ref (G.1 1) :: rest))) : W p l e R s m args below meth c H locs cells slots Q (F0 m pc ls rest) := va_getsN (C := "JudgedDeposits") (n := "HOME_LEAST") (d := "[I") hx hb (hZ.1 1 _ rfl).1 hS hown (va_Nw.use rfl (hZ.2.2.2.2.1 (.fieldLinkNest RX3 94 "JudgedDeposits" "HOME_LEAST" "[I" "JudgedDeposits") (List.mem_of_getElem? (i := 637) (by decide +kernel)) rfl)) (fun _ h => h) hdg kk
theorem gs_X3_97 (hx : p.tables.exec = Jvm.exec) (hb : c.code = cc) (hts : ∀ w ∈ jGW, w.before args s = true) (hown : s.vm.findClass RX3 = some m.cls) (hZ : jZ G A s s.heap) (hS : va_S A s.heap H locs) (hdg : decode cc pc = .ok (.getstatic 97, 3)) (kk : W p l e R s m args below meth c H locs cells slots Q (F0 m (pc + 3) ls (.ref (G.1 2) :: rest))) : W p l e R s m args below meth c H locs cells slots Q (F0 m pc ls rest) := va_getsN (C := "JudgedDeposits") (n := "HOME_MOST") (d := "[I") hx hb (hZ.1 2 _ rfl).1 hS hown (va_Nw.use rfl (hZ.2.2.2.2.1 (.fieldLinkNest RX3 97 "JudgedDeposits" "HOME_MOST" "[I" "JudgedDeposits") (List.mem_of_getElem? (i := 638) (by decide +kernel)) rfl)) (fun _ h => h) hdg kk
theorem gs_X1_15 (hx : p.tables.exec = Jvm.exec) (hb : c.code = cc) (hts : ∀ w ∈ jGW, w.before args s = true) (hown : s.vm.findClass RX1 = some m.cls) (hZ : jZ G A s s.heap) (hS : va_S A s.heap H locs) (hdg : decode cc pc = .ok (.getstatic 15, 3)) (kk : W p l e R s m args below meth c H locs cells slots Q (F0 m (pc + 3) ls (.ref (G.1 4) :: rest))) : W p l e R s m args below meth c H locs cells slots Q (F0 m pc ls rest) := va_getsN (C := "JudgedDeposits") (n := "KIND_ABOVE") (d := "[I") hx hb (hZ.1 4 _ rfl).1 hS hown (va_Nw.use rfl (hZ.2.2.2.2.1 (.fieldLinkNest RX1 15 "JudgedDeposits" "KIND_ABOVE" "[I" "JudgedDeposits") (List.mem_of_getElem? (i := 662) (by decide +kernel)) rfl)) (fun _ h => h) hdg kk
theorem gf_X5_9 (hx : p.tables.exec = Jvm.exec) (hb : c.code = cc) (hts : ∀ w ∈ jGW, w.before args s = true) (hown : s.vm.findClass RX5 = some m.cls) (hK : va_K D vwCl tys s) (hZ : jZ G A s s.heap) (hP : va_P D vwCl ws H) (q0 : Nat) {fs : List Value} (he : ws[q0]? = some (a, .inr (4, fs))) {v : Value} (hv : fs[0]? = some v) (hdg : decode cc pc = .ok (.getfield 9, 3)) (kk : W p l e R s m args below meth c H locs cells slots Q (F0 m (pc + 3) ls (v :: rest))) : W p l e R s m args below meth c H locs cells slots Q (F0 m pc ls (.ref a :: rest)) := va_get (C := RX5) (T := TX5) (N := 15) hx hb hts jin_X5 hown hK hP q0 he rfl 0 (by decide) (hts (.fieldLink RX5 9 "JudgedDepositsModel" "m" "[I") (jq 729 (by decide +kernel) rfl)) (fun _ h9 => h9) hv hdg kk
theorem gf_X5_13 (hx : p.tables.exec = Jvm.exec) (hb : c.code = cc) (hts : ∀ w ∈ jGW, w.before args s = true) (hown : s.vm.findClass RX5 = some m.cls) (hK : va_K D vwCl tys s) (hZ : jZ G A s s.heap) (hP : va_P D vwCl ws H) (q0 : Nat) {fs : List Value} (he : ws[q0]? = some (a, .inr (4, fs))) {v : Value} (hv : fs[1]? = some v) (hdg : decode cc pc = .ok (.getfield 13, 3)) (kk : W p l e R s m args below meth c H locs cells slots Q (F0 m (pc + 3) ls (v :: rest))) : W p l e R s m args below meth c H locs cells slots Q (F0 m pc ls (.ref a :: rest)) := va_get (C := RX5) (T := TX5) (N := 15) hx hb hts jin_X5 hown hK hP q0 he rfl 1 (by decide) (hts (.fieldLink RX5 13 "JudgedDepositsModel" "kept" "[I") (jq 730 (by decide +kernel) rfl)) (fun _ h9 => h9) hv hdg kk
theorem gf_X5_16 (hx : p.tables.exec = Jvm.exec) (hb : c.code = cc) (hts : ∀ w ∈ jGW, w.before args s = true) (hown : s.vm.findClass RX5 = some m.cls) (hK : va_K D vwCl tys s) (hZ : jZ G A s s.heap) (hP : va_P D vwCl ws H) (q0 : Nat) {fs : List Value} (he : ws[q0]? = some (a, .inr (4, fs))) {v : Value} (hv : fs[2]? = some v) (hdg : decode cc pc = .ok (.getfield 16, 3)) (kk : W p l e R s m args below meth c H locs cells slots Q (F0 m (pc + 3) ls (v :: rest))) : W p l e R s m args below meth c H locs cells slots Q (F0 m pc ls (.ref a :: rest)) := va_get (C := RX5) (T := TX5) (N := 15) hx hb hts jin_X5 hown hK hP q0 he rfl 2 (by decide) (hts (.fieldLink RX5 16 "JudgedDepositsModel" "was" "[I") (jq 731 (by decide +kernel) rfl)) (fun _ h9 => h9) hv hdg kk
theorem gf_X5_236 (hx : p.tables.exec = Jvm.exec) (hb : c.code = cc) (hts : ∀ w ∈ jGW, w.before args s = true) (hown : s.vm.findClass RX5 = some m.cls) (hK : va_K D vwCl tys s) (hZ : jZ G A s s.heap) (hP : va_P D vwCl ws H) (q0 : Nat) {fs : List Value} (he : ws[q0]? = some (a, .inr (4, fs))) {v : Value} (hv : fs[3]? = some v) (hdg : decode cc pc = .ok (.getfield 236, 3)) (kk : W p l e R s m args below meth c H locs cells slots Q (F0 m (pc + 3) ls (v :: rest))) : W p l e R s m args below meth c H locs cells slots Q (F0 m pc ls (.ref a :: rest)) := va_get (C := RX5) (T := TX5) (N := 15) hx hb hts jin_X5 hown hK hP q0 he rfl 3 (by decide) (hts (.fieldLink RX5 236 "JudgedDepositsModel" "isKept" "Z") (jq 732 (by decide +kernel) rfl)) (fun _ h9 => h9) hv hdg kk
theorem pf_X5_236 (hx : p.tables.exec = Jvm.exec) (hb : c.code = cc) (hts : ∀ w ∈ jGW, w.before args s = true) (hown : s.vm.findClass RX5 = some m.cls) (hK : va_K D vwCl tys s) (hZ : jZ G A s s.heap) (hP : va_P D vwCl ws H) (hD : va_D A ws) (hS : va_S A s.heap H locs) (q0 : Nat) {fs : List Value} (he : ws[q0]? = some (a, .inr (4, fs))) {v : Value} (hn : narrow .boolean v = v) (hfit : fits .boolean v = true) (hl : 3 < fs.length) (hdg : decode cc pc = .ok (.putfield 236, 3)) (kk : ∀ (H1 : Heap) (locs1 : List Loc), va_P D vwCl (ws.set q0 (a, .inr (4, fs.set 3 v))) H1 → va_D A (ws.set q0 (a, .inr (4, fs.set 3 v))) → va_S A s.heap H1 locs1 → W p l e R s m args below meth c H1 locs1 cells slots Q (F0 m (pc + 3) ls rest)) : W p l e R s m args below meth c H locs cells slots Q (F0 m pc ls (v :: .ref a :: rest)) := va_put (ty := .boolean) (C := RX5) (T := TX5) (N := 15) hx hb hts jin_X5 tyX5 tyX5_ok nmX5 hown hK hP hD hS q0 he rfl 3 (by decide) (hts (.fieldLink RX5 236 "JudgedDepositsModel" "isKept" "Z") (jq 732 (by decide +kernel) rfl)) (fun _ h9 => h9) rfl (by decide +kernel) hn hfit hl hdg kk
theorem gf_X5_19 (hx : p.tables.exec = Jvm.exec) (hb : c.code = cc) (hts : ∀ w ∈ jGW, w.before args s = true) (hown : s.vm.findClass RX5 = some m.cls) (hK : va_K D vwCl tys s) (hZ : jZ G A s s.heap) (hP : va_P D vwCl ws H) (q0 : Nat) {fs : List Value} (he : ws[q0]? = some (a, .inr (4, fs))) {v : Value} (hv : fs[4]? = some v) (hdg : decode cc pc = .ok (.getfield 19, 3)) (kk : W p l e R s m args below meth c H locs cells slots Q (F0 m (pc + 3) ls (v :: rest))) : W p l e R s m args below meth c H locs cells slots Q (F0 m pc ls (.ref a :: rest)) := va_get (C := RX5) (T := TX5) (N := 15) hx hb hts jin_X5 hown hK hP q0 he rfl 4 (by decide) (hts (.fieldLink RX5 19 "JudgedDepositsModel" "found" "[I") (jq 733 (by decide +kernel) rfl)) (fun _ h9 => h9) hv hdg kk
theorem gf_X5_22 (hx : p.tables.exec = Jvm.exec) (hb : c.code = cc) (hts : ∀ w ∈ jGW, w.before args s = true) (hown : s.vm.findClass RX5 = some m.cls) (hK : va_K D vwCl tys s) (hZ : jZ G A s s.heap) (hP : va_P D vwCl ws H) (q0 : Nat) {fs : List Value} (he : ws[q0]? = some (a, .inr (4, fs))) {v : Value} (hv : fs[5]? = some v) (hdg : decode cc pc = .ok (.getfield 22, 3)) (kk : W p l e R s m args below meth c H locs cells slots Q (F0 m (pc + 3) ls (v :: rest))) : W p l e R s m args below meth c H locs cells slots Q (F0 m pc ls (.ref a :: rest)) := va_get (C := RX5) (T := TX5) (N := 15) hx hb hts jin_X5 hown hK hP q0 he rfl 5 (by decide) (hts (.fieldLink RX5 22 "JudgedDepositsModel" "bitsOf" "[I") (jq 734 (by decide +kernel) rfl)) (fun _ h9 => h9) hv hdg kk
theorem gf_X5_25 (hx : p.tables.exec = Jvm.exec) (hb : c.code = cc) (hts : ∀ w ∈ jGW, w.before args s = true) (hown : s.vm.findClass RX5 = some m.cls) (hK : va_K D vwCl tys s) (hZ : jZ G A s s.heap) (hP : va_P D vwCl ws H) (q0 : Nat) {fs : List Value} (he : ws[q0]? = some (a, .inr (4, fs))) {v : Value} (hv : fs[6]? = some v) (hdg : decode cc pc = .ok (.getfield 25, 3)) (kk : W p l e R s m args below meth c H locs cells slots Q (F0 m (pc + 3) ls (v :: rest))) : W p l e R s m args below meth c H locs cells slots Q (F0 m pc ls (.ref a :: rest)) := va_get (C := RX5) (T := TX5) (N := 15) hx hb hts jin_X5 hown hK hP q0 he rfl 6 (by decide) (hts (.fieldLink RX5 25 "JudgedDepositsModel" "sizeOf" "[I") (jq 735 (by decide +kernel) rfl)) (fun _ h9 => h9) hv hdg kk
theorem gf_X5_28 (hx : p.tables.exec = Jvm.exec) (hb : c.code = cc) (hts : ∀ w ∈ jGW, w.before args s = true) (hown : s.vm.findClass RX5 = some m.cls) (hK : va_K D vwCl tys s) (hZ : jZ G A s s.heap) (hP : va_P D vwCl ws H) (q0 : Nat) {fs : List Value} (he : ws[q0]? = some (a, .inr (4, fs))) {v : Value} (hv : fs[7]? = some v) (hdg : decode cc pc = .ok (.getfield 28, 3)) (kk : W p l e R s m args below meth c H locs cells slots Q (F0 m (pc + 3) ls (v :: rest))) : W p l e R s m args below meth c H locs cells slots Q (F0 m pc ls (.ref a :: rest)) := va_get (C := RX5) (T := TX5) (N := 15) hx hb hts jin_X5 hown hK hP q0 he rfl 7 (by decide) (hts (.fieldLink RX5 28 "JudgedDepositsModel" "cells" "[I") (jq 736 (by decide +kernel) rfl)) (fun _ h9 => h9) hv hdg kk
theorem gf_X5_31 (hx : p.tables.exec = Jvm.exec) (hb : c.code = cc) (hts : ∀ w ∈ jGW, w.before args s = true) (hown : s.vm.findClass RX5 = some m.cls) (hK : va_K D vwCl tys s) (hZ : jZ G A s s.heap) (hP : va_P D vwCl ws H) (q0 : Nat) {fs : List Value} (he : ws[q0]? = some (a, .inr (4, fs))) {v : Value} (hv : fs[8]? = some v) (hdg : decode cc pc = .ok (.getfield 31, 3)) (kk : W p l e R s m args below meth c H locs cells slots Q (F0 m (pc + 3) ls (v :: rest))) : W p l e R s m args below meth c H locs cells slots Q (F0 m pc ls (.ref a :: rest)) := va_get (C := RX5) (T := TX5) (N := 15) hx hb hts jin_X5 hown hK hP q0 he rfl 8 (by decide) (hts (.fieldLink RX5 31 "JudgedDepositsModel" "tape" "[I") (jq 737 (by decide +kernel) rfl)) (fun _ h9 => h9) hv hdg kk
theorem gf_X5_170 (hx : p.tables.exec = Jvm.exec) (hb : c.code = cc) (hts : ∀ w ∈ jGW, w.before args s = true) (hown : s.vm.findClass RX5 = some m.cls) (hK : va_K D vwCl tys s) (hZ : jZ G A s s.heap) (hP : va_P D vwCl ws H) (q0 : Nat) {fs : List Value} (he : ws[q0]? = some (a, .inr (4, fs))) {v : Value} (hv : fs[9]? = some v) (hdg : decode cc pc = .ok (.getfield 170, 3)) (kk : W p l e R s m args below meth c H locs cells slots Q (F0 m (pc + 3) ls (v :: rest))) : W p l e R s m args below meth c H locs cells slots Q (F0 m pc ls (.ref a :: rest)) := va_get (C := RX5) (T := TX5) (N := 15) hx hb hts jin_X5 hown hK hP q0 he rfl 9 (by decide) (hts (.fieldLink RX5 170 "JudgedDepositsModel" "taped" "I") (jq 738 (by decide +kernel) rfl)) (fun _ h9 => h9) hv hdg kk
theorem pf_X5_170 (hx : p.tables.exec = Jvm.exec) (hb : c.code = cc) (hts : ∀ w ∈ jGW, w.before args s = true) (hown : s.vm.findClass RX5 = some m.cls) (hK : va_K D vwCl tys s) (hZ : jZ G A s s.heap) (hP : va_P D vwCl ws H) (hD : va_D A ws) (hS : va_S A s.heap H locs) (q0 : Nat) {fs : List Value} (he : ws[q0]? = some (a, .inr (4, fs))) {v : Value} (hn : narrow .int v = v) (hfit : fits .int v = true) (hl : 9 < fs.length) (hdg : decode cc pc = .ok (.putfield 170, 3)) (kk : ∀ (H1 : Heap) (locs1 : List Loc), va_P D vwCl (ws.set q0 (a, .inr (4, fs.set 9 v))) H1 → va_D A (ws.set q0 (a, .inr (4, fs.set 9 v))) → va_S A s.heap H1 locs1 → W p l e R s m args below meth c H1 locs1 cells slots Q (F0 m (pc + 3) ls rest)) : W p l e R s m args below meth c H locs cells slots Q (F0 m pc ls (v :: .ref a :: rest)) := va_put (ty := .int) (C := RX5) (T := TX5) (N := 15) hx hb hts jin_X5 tyX5 tyX5_ok nmX5 hown hK hP hD hS q0 he rfl 9 (by decide) (hts (.fieldLink RX5 170 "JudgedDepositsModel" "taped" "I") (jq 738 (by decide +kernel) rfl)) (fun _ h9 => h9) rfl (by decide +kernel) hn hfit hl hdg kk
theorem gf_X5_192 (hx : p.tables.exec = Jvm.exec) (hb : c.code = cc) (hts : ∀ w ∈ jGW, w.before args s = true) (hown : s.vm.findClass RX5 = some m.cls) (hK : va_K D vwCl tys s) (hZ : jZ G A s s.heap) (hP : va_P D vwCl ws H) (q0 : Nat) {fs : List Value} (he : ws[q0]? = some (a, .inr (4, fs))) {v : Value} (hv : fs[10]? = some v) (hdg : decode cc pc = .ok (.getfield 192, 3)) (kk : W p l e R s m args below meth c H locs cells slots Q (F0 m (pc + 3) ls (v :: rest))) : W p l e R s m args below meth c H locs cells slots Q (F0 m pc ls (.ref a :: rest)) := va_get (C := RX5) (T := TX5) (N := 15) hx hb hts jin_X5 hown hK hP q0 he rfl 10 (by decide) (hts (.fieldLink RX5 192 "JudgedDepositsModel" "token" "I") (jq 739 (by decide +kernel) rfl)) (fun _ h9 => h9) hv hdg kk
theorem pf_X5_192 (hx : p.tables.exec = Jvm.exec) (hb : c.code = cc) (hts : ∀ w ∈ jGW, w.before args s = true) (hown : s.vm.findClass RX5 = some m.cls) (hK : va_K D vwCl tys s) (hZ : jZ G A s s.heap) (hP : va_P D vwCl ws H) (hD : va_D A ws) (hS : va_S A s.heap H locs) (q0 : Nat) {fs : List Value} (he : ws[q0]? = some (a, .inr (4, fs))) {v : Value} (hn : narrow .int v = v) (hfit : fits .int v = true) (hl : 10 < fs.length) (hdg : decode cc pc = .ok (.putfield 192, 3)) (kk : ∀ (H1 : Heap) (locs1 : List Loc), va_P D vwCl (ws.set q0 (a, .inr (4, fs.set 10 v))) H1 → va_D A (ws.set q0 (a, .inr (4, fs.set 10 v))) → va_S A s.heap H1 locs1 → W p l e R s m args below meth c H1 locs1 cells slots Q (F0 m (pc + 3) ls rest)) : W p l e R s m args below meth c H locs cells slots Q (F0 m pc ls (v :: .ref a :: rest)) := va_put (ty := .int) (C := RX5) (T := TX5) (N := 15) hx hb hts jin_X5 tyX5 tyX5_ok nmX5 hown hK hP hD hS q0 he rfl 10 (by decide) (hts (.fieldLink RX5 192 "JudgedDepositsModel" "token" "I") (jq 739 (by decide +kernel) rfl)) (fun _ h9 => h9) rfl (by decide +kernel) hn hfit hl hdg kk
theorem gf_X5_177 (hx : p.tables.exec = Jvm.exec) (hb : c.code = cc) (hts : ∀ w ∈ jGW, w.before args s = true) (hown : s.vm.findClass RX5 = some m.cls) (hK : va_K D vwCl tys s) (hZ : jZ G A s s.heap) (hP : va_P D vwCl ws H) (q0 : Nat) {fs : List Value} (he : ws[q0]? = some (a, .inr (4, fs))) {v : Value} (hv : fs[11]? = some v) (hdg : decode cc pc = .ok (.getfield 177, 3)) (kk : W p l e R s m args below meth c H locs cells slots Q (F0 m (pc + 3) ls (v :: rest))) : W p l e R s m args below meth c H locs cells slots Q (F0 m pc ls (.ref a :: rest)) := va_get (C := RX5) (T := TX5) (N := 15) hx hb hts jin_X5 hown hK hP q0 he rfl 11 (by decide) (hts (.fieldLink RX5 177 "JudgedDepositsModel" "begin" "I") (jq 740 (by decide +kernel) rfl)) (fun _ h9 => h9) hv hdg kk
theorem pf_X5_177 (hx : p.tables.exec = Jvm.exec) (hb : c.code = cc) (hts : ∀ w ∈ jGW, w.before args s = true) (hown : s.vm.findClass RX5 = some m.cls) (hK : va_K D vwCl tys s) (hZ : jZ G A s s.heap) (hP : va_P D vwCl ws H) (hD : va_D A ws) (hS : va_S A s.heap H locs) (q0 : Nat) {fs : List Value} (he : ws[q0]? = some (a, .inr (4, fs))) {v : Value} (hn : narrow .int v = v) (hfit : fits .int v = true) (hl : 11 < fs.length) (hdg : decode cc pc = .ok (.putfield 177, 3)) (kk : ∀ (H1 : Heap) (locs1 : List Loc), va_P D vwCl (ws.set q0 (a, .inr (4, fs.set 11 v))) H1 → va_D A (ws.set q0 (a, .inr (4, fs.set 11 v))) → va_S A s.heap H1 locs1 → W p l e R s m args below meth c H1 locs1 cells slots Q (F0 m (pc + 3) ls rest)) : W p l e R s m args below meth c H locs cells slots Q (F0 m pc ls (v :: .ref a :: rest)) := va_put (ty := .int) (C := RX5) (T := TX5) (N := 15) hx hb hts jin_X5 tyX5 tyX5_ok nmX5 hown hK hP hD hS q0 he rfl 11 (by decide) (hts (.fieldLink RX5 177 "JudgedDepositsModel" "begin" "I") (jq 740 (by decide +kernel) rfl)) (fun _ h9 => h9) rfl (by decide +kernel) hn hfit hl hdg kk
theorem gf_X5_180 (hx : p.tables.exec = Jvm.exec) (hb : c.code = cc) (hts : ∀ w ∈ jGW, w.before args s = true) (hown : s.vm.findClass RX5 = some m.cls) (hK : va_K D vwCl tys s) (hZ : jZ G A s s.heap) (hP : va_P D vwCl ws H) (q0 : Nat) {fs : List Value} (he : ws[q0]? = some (a, .inr (4, fs))) {v : Value} (hv : fs[12]? = some v) (hdg : decode cc pc = .ok (.getfield 180, 3)) (kk : W p l e R s m args below meth c H locs cells slots Q (F0 m (pc + 3) ls (v :: rest))) : W p l e R s m args below meth c H locs cells slots Q (F0 m pc ls (.ref a :: rest)) := va_get (C := RX5) (T := TX5) (N := 15) hx hb hts jin_X5 hown hK hP q0 he rfl 12 (by decide) (hts (.fieldLink RX5 180 "JudgedDepositsModel" "at" "I") (jq 741 (by decide +kernel) rfl)) (fun _ h9 => h9) hv hdg kk
theorem pf_X5_180 (hx : p.tables.exec = Jvm.exec) (hb : c.code = cc) (hts : ∀ w ∈ jGW, w.before args s = true) (hown : s.vm.findClass RX5 = some m.cls) (hK : va_K D vwCl tys s) (hZ : jZ G A s s.heap) (hP : va_P D vwCl ws H) (hD : va_D A ws) (hS : va_S A s.heap H locs) (q0 : Nat) {fs : List Value} (he : ws[q0]? = some (a, .inr (4, fs))) {v : Value} (hn : narrow .int v = v) (hfit : fits .int v = true) (hl : 12 < fs.length) (hdg : decode cc pc = .ok (.putfield 180, 3)) (kk : ∀ (H1 : Heap) (locs1 : List Loc), va_P D vwCl (ws.set q0 (a, .inr (4, fs.set 12 v))) H1 → va_D A (ws.set q0 (a, .inr (4, fs.set 12 v))) → va_S A s.heap H1 locs1 → W p l e R s m args below meth c H1 locs1 cells slots Q (F0 m (pc + 3) ls rest)) : W p l e R s m args below meth c H locs cells slots Q (F0 m pc ls (v :: .ref a :: rest)) := va_put (ty := .int) (C := RX5) (T := TX5) (N := 15) hx hb hts jin_X5 tyX5 tyX5_ok nmX5 hown hK hP hD hS q0 he rfl 12 (by decide) (hts (.fieldLink RX5 180 "JudgedDepositsModel" "at" "I") (jq 741 (by decide +kernel) rfl)) (fun _ h9 => h9) rfl (by decide +kernel) hn hfit hl hdg kk
theorem gf_X5_189 (hx : p.tables.exec = Jvm.exec) (hb : c.code = cc) (hts : ∀ w ∈ jGW, w.before args s = true) (hown : s.vm.findClass RX5 = some m.cls) (hK : va_K D vwCl tys s) (hZ : jZ G A s s.heap) (hP : va_P D vwCl ws H) (q0 : Nat) {fs : List Value} (he : ws[q0]? = some (a, .inr (4, fs))) {v : Value} (hv : fs[13]? = some v) (hdg : decode cc pc = .ok (.getfield 189, 3)) (kk : W p l e R s m args below meth c H locs cells slots Q (F0 m (pc + 3) ls (v :: rest))) : W p l e R s m args below meth c H locs cells slots Q (F0 m pc ls (.ref a :: rest)) := va_get (C := RX5) (T := TX5) (N := 15) hx hb hts jin_X5 hown hK hP q0 he rfl 13 (by decide) (hts (.fieldLink RX5 189 "JudgedDepositsModel" "value" "I") (jq 742 (by decide +kernel) rfl)) (fun _ h9 => h9) hv hdg kk
theorem pf_X5_189 (hx : p.tables.exec = Jvm.exec) (hb : c.code = cc) (hts : ∀ w ∈ jGW, w.before args s = true) (hown : s.vm.findClass RX5 = some m.cls) (hK : va_K D vwCl tys s) (hZ : jZ G A s s.heap) (hP : va_P D vwCl ws H) (hD : va_D A ws) (hS : va_S A s.heap H locs) (q0 : Nat) {fs : List Value} (he : ws[q0]? = some (a, .inr (4, fs))) {v : Value} (hn : narrow .int v = v) (hfit : fits .int v = true) (hl : 13 < fs.length) (hdg : decode cc pc = .ok (.putfield 189, 3)) (kk : ∀ (H1 : Heap) (locs1 : List Loc), va_P D vwCl (ws.set q0 (a, .inr (4, fs.set 13 v))) H1 → va_D A (ws.set q0 (a, .inr (4, fs.set 13 v))) → va_S A s.heap H1 locs1 → W p l e R s m args below meth c H1 locs1 cells slots Q (F0 m (pc + 3) ls rest)) : W p l e R s m args below meth c H locs cells slots Q (F0 m pc ls (v :: .ref a :: rest)) := va_put (ty := .int) (C := RX5) (T := TX5) (N := 15) hx hb hts jin_X5 tyX5 tyX5_ok nmX5 hown hK hP hD hS q0 he rfl 13 (by decide) (hts (.fieldLink RX5 189 "JudgedDepositsModel" "value" "I") (jq 742 (by decide +kernel) rfl)) (fun _ h9 => h9) rfl (by decide +kernel) hn hfit hl hdg kk
theorem gf_X5_198 (hx : p.tables.exec = Jvm.exec) (hb : c.code = cc) (hts : ∀ w ∈ jGW, w.before args s = true) (hown : s.vm.findClass RX5 = some m.cls) (hK : va_K D vwCl tys s) (hZ : jZ G A s s.heap) (hP : va_P D vwCl ws H) (q0 : Nat) {fs : List Value} (he : ws[q0]? = some (a, .inr (4, fs))) {v : Value} (hv : fs[14]? = some v) (hdg : decode cc pc = .ok (.getfield 198, 3)) (kk : W p l e R s m args below meth c H locs cells slots Q (F0 m (pc + 3) ls (v :: rest))) : W p l e R s m args below meth c H locs cells slots Q (F0 m pc ls (.ref a :: rest)) := va_get (C := RX5) (T := TX5) (N := 15) hx hb hts jin_X5 hown hK hP q0 he rfl 14 (by decide) (hts (.fieldLink RX5 198 "JudgedDepositsModel" "bad" "Z") (jq 743 (by decide +kernel) rfl)) (fun _ h9 => h9) hv hdg kk
theorem pf_X5_198 (hx : p.tables.exec = Jvm.exec) (hb : c.code = cc) (hts : ∀ w ∈ jGW, w.before args s = true) (hown : s.vm.findClass RX5 = some m.cls) (hK : va_K D vwCl tys s) (hZ : jZ G A s s.heap) (hP : va_P D vwCl ws H) (hD : va_D A ws) (hS : va_S A s.heap H locs) (q0 : Nat) {fs : List Value} (he : ws[q0]? = some (a, .inr (4, fs))) {v : Value} (hn : narrow .boolean v = v) (hfit : fits .boolean v = true) (hl : 14 < fs.length) (hdg : decode cc pc = .ok (.putfield 198, 3)) (kk : ∀ (H1 : Heap) (locs1 : List Loc), va_P D vwCl (ws.set q0 (a, .inr (4, fs.set 14 v))) H1 → va_D A (ws.set q0 (a, .inr (4, fs.set 14 v))) → va_S A s.heap H1 locs1 → W p l e R s m args below meth c H1 locs1 cells slots Q (F0 m (pc + 3) ls rest)) : W p l e R s m args below meth c H locs cells slots Q (F0 m pc ls (v :: .ref a :: rest)) := va_put (ty := .boolean) (C := RX5) (T := TX5) (N := 15) hx hb hts jin_X5 tyX5 tyX5_ok nmX5 hown hK hP hD hS q0 he rfl 14 (by decide) (hts (.fieldLink RX5 198 "JudgedDepositsModel" "bad" "Z") (jq 743 (by decide +kernel) rfl)) (fun _ h9 => h9) rfl (by decide +kernel) hn hfit hl hdg kk
theorem gs_X5_174 (hx : p.tables.exec = Jvm.exec) (hb : c.code = cc) (hts : ∀ w ∈ jGW, w.before args s = true) (hown : s.vm.findClass RX5 = some m.cls) (hZ : jZ G A s s.heap) (hS : va_S A s.heap H locs) (hdg : decode cc pc = .ok (.getstatic 174, 3)) (kk : W p l e R s m args below meth c H locs cells slots Q (F0 m (pc + 3) ls (.ref (G.1 5) :: rest))) : W p l e R s m args below meth c H locs cells slots Q (F0 m pc ls rest) := va_gets (C := "JudgedDepositsModel") (n := "NAMES") (d := "[I") hx hb (hZ.1 5 _ rfl).1 hS hown (hts (.fieldLink RX5 174 "JudgedDepositsModel" "NAMES" "[I") (jq 1055 (by decide +kernel) rfl)) (fun _ h => h) hdg kk
theorem mmax_X1_27 (hx : p.tables.exec = Jvm.exec) (hb : c.code = cc) (hml : c.maxLocals = ls.size) (hts : ∀ w ∈ jGW, w.before args s = true) (hown : s.vm.findClass RX1 = some m.cls) (hframes : 1 ≤ R.frames) (hlocals : (rest.map fun v => v.category).sum + 13 ≤ R.locals) (hc : cells ≤ R.cells) (hs : slots ≤ R.slots) {x y : Int32} (hdg : decode cc pc = .ok (.invokestatic 27, 3)) (kk : W p l e R s m args below meth c H locs cells slots Q (F0 m (pc + 3) ls (.int (jmax x y) :: rest))) : W p l e R s m args below meth c H locs cells slots Q (F0 m pc ls (.int y :: .int x :: rest)) := va_mmax hx hb hml hown (hts (.methodLink RX1 27 Lib.Math.max.name) (jq 296 (by decide +kernel) rfl)) (hts (.static Lib.Math.max.name) (jq 297 (by decide +kernel) rfl)) (hts (.initialized "java/lang/Math") (jq 69 (by decide +kernel) rfl)) (hts (.code Lib.Math.max.name Lib.Math.max.code 2 (some .int)) (jq 298 (by decide +kernel) rfl)) hframes hlocals hc hs hdg kk
theorem mmin_X1_32 (hx : p.tables.exec = Jvm.exec) (hb : c.code = cc) (hml : c.maxLocals = ls.size) (hts : ∀ w ∈ jGW, w.before args s = true) (hown : s.vm.findClass RX1 = some m.cls) (hframes : 1 ≤ R.frames) (hlocals : (rest.map fun v => v.category).sum + 13 ≤ R.locals) (hc : cells ≤ R.cells) (hs : slots ≤ R.slots) {x y : Int32} (hdg : decode cc pc = .ok (.invokestatic 32, 3)) (kk : W p l e R s m args below meth c H locs cells slots Q (F0 m (pc + 3) ls (.int (jmin x y) :: rest))) : W p l e R s m args below meth c H locs cells slots Q (F0 m pc ls (.int y :: .int x :: rest)) := va_mmin hx hb hml hown (hts (.methodLink RX1 32 Lib.Math.min.name) (jq 299 (by decide +kernel) rfl)) (hts (.static Lib.Math.min.name) (jq 300 (by decide +kernel) rfl)) (hts (.initialized "java/lang/Math") (jq 69 (by decide +kernel) rfl)) (hts (.code Lib.Math.min.name Lib.Math.min.code 2 (some .int)) (jq 301 (by decide +kernel) rfl)) hframes hlocals hc hs hdg kk
theorem mmax_X0_92 (hx : p.tables.exec = Jvm.exec) (hb : c.code = cc) (hml : c.maxLocals = ls.size) (hts : ∀ w ∈ jGW, w.before args s = true) (hown : s.vm.findClass RX0 = some m.cls) (hframes : 1 ≤ R.frames) (hlocals : (rest.map fun v => v.category).sum + 13 ≤ R.locals) (hc : cells ≤ R.cells) (hs : slots ≤ R.slots) {x y : Int32} (hdg : decode cc pc = .ok (.invokestatic 92, 3)) (kk : W p l e R s m args below meth c H locs cells slots Q (F0 m (pc + 3) ls (.int (jmax x y) :: rest))) : W p l e R s m args below meth c H locs cells slots Q (F0 m pc ls (.int y :: .int x :: rest)) := va_mmax hx hb hml hown (hts (.methodLink RX0 92 Lib.Math.max.name) (jq 313 (by decide +kernel) rfl)) (hts (.static Lib.Math.max.name) (jq 297 (by decide +kernel) rfl)) (hts (.initialized "java/lang/Math") (jq 69 (by decide +kernel) rfl)) (hts (.code Lib.Math.max.name Lib.Math.max.code 2 (some .int)) (jq 298 (by decide +kernel) rfl)) hframes hlocals hc hs hdg kk
theorem mmin_X0_100 (hx : p.tables.exec = Jvm.exec) (hb : c.code = cc) (hml : c.maxLocals = ls.size) (hts : ∀ w ∈ jGW, w.before args s = true) (hown : s.vm.findClass RX0 = some m.cls) (hframes : 1 ≤ R.frames) (hlocals : (rest.map fun v => v.category).sum + 13 ≤ R.locals) (hc : cells ≤ R.cells) (hs : slots ≤ R.slots) {x y : Int32} (hdg : decode cc pc = .ok (.invokestatic 100, 3)) (kk : W p l e R s m args below meth c H locs cells slots Q (F0 m (pc + 3) ls (.int (jmin x y) :: rest))) : W p l e R s m args below meth c H locs cells slots Q (F0 m pc ls (.int y :: .int x :: rest)) := va_mmin hx hb hml hown (hts (.methodLink RX0 100 Lib.Math.min.name) (jq 322 (by decide +kernel) rfl)) (hts (.static Lib.Math.min.name) (jq 300 (by decide +kernel) rfl)) (hts (.initialized "java/lang/Math") (jq 69 (by decide +kernel) rfl)) (hts (.code Lib.Math.min.name Lib.Math.min.code 2 (some .int)) (jq 301 (by decide +kernel) rfl)) hframes hlocals hc hs hdg kk
theorem mmin_X4_235 (hx : p.tables.exec = Jvm.exec) (hb : c.code = cc) (hml : c.maxLocals = ls.size) (hts : ∀ w ∈ jGW, w.before args s = true) (hown : s.vm.findClass RX4 = some m.cls) (hframes : 1 ≤ R.frames) (hlocals : (rest.map fun v => v.category).sum + 13 ≤ R.locals) (hc : cells ≤ R.cells) (hs : slots ≤ R.slots) {x y : Int32} (hdg : decode cc pc = .ok (.invokestatic 235, 3)) (kk : W p l e R s m args below meth c H locs cells slots Q (F0 m (pc + 3) ls (.int (jmin x y) :: rest))) : W p l e R s m args below meth c H locs cells slots Q (F0 m pc ls (.int y :: .int x :: rest)) := va_mmin hx hb hml hown (hts (.methodLink RX4 235 Lib.Math.min.name) (jq 481 (by decide +kernel) rfl)) (hts (.static Lib.Math.min.name) (jq 300 (by decide +kernel) rfl)) (hts (.initialized "java/lang/Math") (jq 69 (by decide +kernel) rfl)) (hts (.code Lib.Math.min.name Lib.Math.min.code 2 (some .int)) (jq 301 (by decide +kernel) rfl)) hframes hlocals hc hs hdg kk
theorem mmin_X3_147 (hx : p.tables.exec = Jvm.exec) (hb : c.code = cc) (hml : c.maxLocals = ls.size) (hts : ∀ w ∈ jGW, w.before args s = true) (hown : s.vm.findClass RX3 = some m.cls) (hframes : 1 ≤ R.frames) (hlocals : (rest.map fun v => v.category).sum + 13 ≤ R.locals) (hc : cells ≤ R.cells) (hs : slots ≤ R.slots) {x y : Int32} (hdg : decode cc pc = .ok (.invokestatic 147, 3)) (kk : W p l e R s m args below meth c H locs cells slots Q (F0 m (pc + 3) ls (.int (jmin x y) :: rest))) : W p l e R s m args below meth c H locs cells slots Q (F0 m pc ls (.int y :: .int x :: rest)) := va_mmin hx hb hml hown (hts (.methodLink RX3 147 Lib.Math.min.name) (jq 542 (by decide +kernel) rfl)) (hts (.static Lib.Math.min.name) (jq 300 (by decide +kernel) rfl)) (hts (.initialized "java/lang/Math") (jq 69 (by decide +kernel) rfl)) (hts (.code Lib.Math.min.name Lib.Math.min.code 2 (some .int)) (jq 301 (by decide +kernel) rfl)) hframes hlocals hc hs hdg kk
end JR
theorem mf_X0_become : jMV yX0_become cX0_become 2 none RX0 1 := ⟨jq 399 (by decide +kernel) rfl, jq 397 (by decide +kernel) rfl, jq 398 (by decide +kernel) rfl, jq 63 (by decide +kernel) rfl, by decide +kernel, by decide +kernel, by decide +kernel⟩
theorem mf_X0_add : jMV yX0_add cX0_add 4 (some .int) RX0 2 := ⟨jq 261 (by decide +kernel) rfl, jq 259 (by decide +kernel) rfl, jq 260 (by decide +kernel) rfl, jq 63 (by decide +kernel) rfl, by decide +kernel, by decide +kernel, by decide +kernel⟩
theorem mf_X0_trait : jMV yX0_trait cX0_trait 3 (some .int) RX0 2 := ⟨jq 281 (by decide +kernel) rfl, jq 279 (by decide +kernel) rfl, jq 280 (by decide +kernel) rfl, jq 63 (by decide +kernel) rfl, by decide +kernel, by decide +kernel, by decide +kernel⟩
theorem mf_X0_put : jMV yX0_put cX0_put 4 none RX0 3 := ⟨jq 265 (by decide +kernel) rfl, jq 263 (by decide +kernel) rfl, jq 264 (by decide +kernel) rfl, jq 63 (by decide +kernel) rfl, by decide +kernel, by decide +kernel, by decide +kernel⟩
theorem mf_X0_told : jMV yX0_told cX0_told 3 (some .int) RX0 2 := ⟨jq 277 (by decide +kernel) rfl, jq 275 (by decide +kernel) rfl, jq 276 (by decide +kernel) rfl, jq 63 (by decide +kernel) rfl, by decide +kernel, by decide +kernel, by decide +kernel⟩
theorem mf_X0_worth : jMV yX0_worth cX0_worth 2 (some .int) RX0 1 := ⟨jq 288 (by decide +kernel) rfl, jq 286 (by decide +kernel) rfl, jq 287 (by decide +kernel) rfl, jq 63 (by decide +kernel) rfl, by decide +kernel, by decide +kernel, by decide +kernel⟩
theorem mf_X0_fair : jMV yX0_fair cX0_fair 2 (some .int) RX0 1 := ⟨jq 305 (by decide +kernel) rfl, jq 303 (by decide +kernel) rfl, jq 304 (by decide +kernel) rfl, jq 63 (by decide +kernel) rfl, by decide +kernel, by decide +kernel, by decide +kernel⟩
theorem mf_X0_hurt : jMV yX0_hurt cX0_hurt 3 (some .int) RX0 2 := ⟨jq 337 (by decide +kernel) rfl, jq 335 (by decide +kernel) rfl, jq 336 (by decide +kernel) rfl, jq 63 (by decide +kernel) rfl, by decide +kernel, by decide +kernel, by decide +kernel⟩
theorem mf_X0_worse : jMV yX0_worse cX0_worse 2 (some .int) RX0 1 := ⟨jq 312 (by decide +kernel) rfl, jq 310 (by decide +kernel) rfl, jq 311 (by decide +kernel) rfl, jq 63 (by decide +kernel) rfl, by decide +kernel, by decide +kernel, by decide +kernel⟩
theorem mf_X0_award : jMV yX0_award cX0_award 3 (some .int) RX0 1 := ⟨jq 317 (by decide +kernel) rfl, jq 315 (by decide +kernel) rfl, jq 316 (by decide +kernel) rfl, jq 63 (by decide +kernel) rfl, by decide +kernel, by decide +kernel, by decide +kernel⟩
theorem mf_X0_awardOf : jMV yX0_awardOf cX0_awardOf 7 (some .int) RX0 3 := ⟨jq 321 (by decide +kernel) rfl, jq 319 (by decide +kernel) rfl, jq 320 (by decide +kernel) rfl, jq 63 (by decide +kernel) rfl, by decide +kernel, by decide +kernel, by decide +kernel⟩
theorem mf_X0_offersMeet : jMV yX0_offersMeet cX0_offersMeet 1 (some .boolean) RX0 0 := ⟨jq 377 (by decide +kernel) rfl, jq 375 (by decide +kernel) rfl, jq 376 (by decide +kernel) rfl, jq 63 (by decide +kernel) rfl, by decide +kernel, by decide +kernel, by decide +kernel⟩
theorem mf_X0_awarded : jMV yX0_awarded cX0_awarded 3 (some .int) RX0 0 := ⟨jq 369 (by decide +kernel) rfl, jq 367 (by decide +kernel) rfl, jq 368 (by decide +kernel) rfl, jq 63 (by decide +kernel) rfl, by decide +kernel, by decide +kernel, by decide +kernel⟩
theorem mf_X0_awardedOf : jMV yX0_awardedOf cX0_awardedOf 3 (some .int) RX0 1 := ⟨jq 373 (by decide +kernel) rfl, jq 371 (by decide +kernel) rfl, jq 372 (by decide +kernel) rfl, jq 63 (by decide +kernel) rfl, by decide +kernel, by decide +kernel, by decide +kernel⟩
theorem mf_X0_sum : jMV yX0_sum cX0_sum 4 (some .int) RX0 1 := ⟨jq 385 (by decide +kernel) rfl, jq 383 (by decide +kernel) rfl, jq 384 (by decide +kernel) rfl, jq 63 (by decide +kernel) rfl, by decide +kernel, by decide +kernel, by decide +kernel⟩
theorem mf_X0_thingsWith : jMV yX0_thingsWith cX0_thingsWith 4 (some .int) RX0 1 := ⟨jq 390 (by decide +kernel) rfl, jq 388 (by decide +kernel) rfl, jq 389 (by decide +kernel) rfl, jq 63 (by decide +kernel) rfl, by decide +kernel, by decide +kernel, by decide +kernel⟩
theorem mf_X0_heldSpots : jMV yX0_heldSpots cX0_heldSpots 3 (some .int) RX0 0 := ⟨jq 718 (by decide +kernel) rfl, jq 716 (by decide +kernel) rfl, jq 717 (by decide +kernel) rfl, jq 63 (by decide +kernel) rfl, by decide +kernel, by decide +kernel, by decide +kernel⟩
theorem mf_X0_draw : jMV yX0_draw cX0_draw 1 (some .int) RX0 0 := ⟨jq 499 (by decide +kernel) rfl, jq 497 (by decide +kernel) rfl, jq 498 (by decide +kernel) rfl, jq 63 (by decide +kernel) rfl, by decide +kernel, by decide +kernel, by decide +kernel⟩
theorem mf_X0_passDays : jMV yX0_passDays cX0_passDays 3 none RX0 1 := ⟨jq 349 (by decide +kernel) rfl, jq 347 (by decide +kernel) rfl, jq 348 (by decide +kernel) rfl, jq 63 (by decide +kernel) rfl, by decide +kernel, by decide +kernel, by decide +kernel⟩
theorem mf_X0_passDay : jMV yX0_passDay cX0_passDay 5 none RX0 0 := ⟨jq 353 (by decide +kernel) rfl, jq 351 (by decide +kernel) rfl, jq 352 (by decide +kernel) rfl, jq 63 (by decide +kernel) rfl, by decide +kernel, by decide +kernel, by decide +kernel⟩
theorem mf_X0_lower : jMV yX0_lower cX0_lower 3 none RX0 2 := ⟨jq 364 (by decide +kernel) rfl, jq 363 (by decide +kernel) rfl, jq 2 (by decide +kernel) rfl, jq 63 (by decide +kernel) rfl, by decide +kernel, by decide +kernel, by decide +kernel⟩
theorem mf_X1_isOf : jMS yX1_isOf cX1_isOf 4 (some .boolean) 2 := ⟨jq 660 (by decide +kernel) rfl, jq 659 (by decide +kernel) rfl, jq 68 (by decide +kernel) rfl, by decide +kernel, by decide +kernel, by decide +kernel⟩
theorem mf_X1_lives : jMS yX1_lives cX1_lives 2 (some .int) 2 := ⟨jq 284 (by decide +kernel) rfl, jq 283 (by decide +kernel) rfl, jq 68 (by decide +kernel) rfl, by decide +kernel, by decide +kernel, by decide +kernel⟩
theorem mf_X1_worth : jMS yX1_worth cX1_worth 4 (some .int) 3 := ⟨jq 291 (by decide +kernel) rfl, jq 290 (by decide +kernel) rfl, jq 68 (by decide +kernel) rfl, by decide +kernel, by decide +kernel, by decide +kernel⟩
theorem mf_X1_shareLeft : jMS yX1_shareLeft cX1_shareLeft 3 (some .int) 3 := ⟨jq 295 (by decide +kernel) rfl, jq 294 (by decide +kernel) rfl, jq 68 (by decide +kernel) rfl, by decide +kernel, by decide +kernel, by decide +kernel⟩
theorem mf_X1_fair : jMS yX1_fair cX1_fair 3 (some .int) 3 := ⟨jq 308 (by decide +kernel) rfl, jq 307 (by decide +kernel) rfl, jq 68 (by decide +kernel) rfl, by decide +kernel, by decide +kernel, by decide +kernel⟩
theorem mf_X1_hurt : jMS yX1_hurt cX1_hurt 3 (some .int) 3 := ⟨jq 340 (by decide +kernel) rfl, jq 339 (by decide +kernel) rfl, jq 68 (by decide +kernel) rfl, by decide +kernel, by decide +kernel, by decide +kernel⟩
theorem mf_X2_begin : jMV yX2_begin cX2_begin 3 none RX2 2 := ⟨jq 671 (by decide +kernel) rfl, jq 669 (by decide +kernel) rfl, jq 670 (by decide +kernel) rfl, jq 66 (by decide +kernel) rfl, by decide +kernel, by decide +kernel, by decide +kernel⟩
theorem mf_X2_put : jMV yX2_put cX2_put 4 none RX2 2 := ⟨jq 680 (by decide +kernel) rfl, jq 678 (by decide +kernel) rfl, jq 679 (by decide +kernel) rfl, jq 66 (by decide +kernel) rfl, by decide +kernel, by decide +kernel, by decide +kernel⟩
theorem mf_X2_hasRow : jMV yX2_hasRow cX2_hasRow 3 (some .boolean) RX2 2 := ⟨jq 688 (by decide +kernel) rfl, jq 686 (by decide +kernel) rfl, jq 687 (by decide +kernel) rfl, jq 66 (by decide +kernel) rfl, by decide +kernel, by decide +kernel, by decide +kernel⟩
theorem mf_X3_append : jMV yX3_append cX3_append 2 none RX3 1 := ⟨jq 522 (by decide +kernel) rfl, jq 520 (by decide +kernel) rfl, jq 521 (by decide +kernel) rfl, jq 65 (by decide +kernel) rfl, by decide +kernel, by decide +kernel, by decide +kernel⟩
theorem mf_X3_readItems : jMV yX3_readItems cX3_readItems 3 (some .int) RX3 1 := ⟨jq 534 (by decide +kernel) rfl, jq 532 (by decide +kernel) rfl, jq 533 (by decide +kernel) rfl, jq 65 (by decide +kernel) rfl, by decide +kernel, by decide +kernel, by decide +kernel⟩
theorem mf_X3_readItem : jMV yX3_readItem cX3_readItem 3 (some .boolean) RX3 1 := ⟨jq 546 (by decide +kernel) rfl, jq 545 (by decide +kernel) rfl, jq 11 (by decide +kernel) rfl, jq 65 (by decide +kernel) rfl, by decide +kernel, by decide +kernel, by decide +kernel⟩
theorem mf_X3_readThing : jMV yX3_readThing cX3_readThing 5 (some .boolean) RX3 2 := ⟨jq 612 (by decide +kernel) rfl, jq 611 (by decide +kernel) rfl, jq 13 (by decide +kernel) rfl, jq 65 (by decide +kernel) rfl, by decide +kernel, by decide +kernel, by decide +kernel⟩
theorem mf_X3_takeHome : jMV yX3_takeHome cX3_takeHome 3 (some .boolean) RX3 2 := ⟨jq 636 (by decide +kernel) rfl, jq 635 (by decide +kernel) rfl, jq 16 (by decide +kernel) rfl, jq 65 (by decide +kernel) rfl, by decide +kernel, by decide +kernel, by decide +kernel⟩
theorem mf_X3_readBlow : jMV yX3_readBlow cX3_readBlow 4 (some .boolean) RX3 1 := ⟨jq 645 (by decide +kernel) rfl, jq 644 (by decide +kernel) rfl, jq 17 (by decide +kernel) rfl, jq 65 (by decide +kernel) rfl, by decide +kernel, by decide +kernel, by decide +kernel⟩
theorem mf_X3_takeNumber : jMV yX3_takeNumber cX3_takeNumber 3 (some .boolean) RX3 2 := ⟨jq 617 (by decide +kernel) rfl, jq 616 (by decide +kernel) rfl, jq 14 (by decide +kernel) rfl, jq 65 (by decide +kernel) rfl, by decide +kernel, by decide +kernel, by decide +kernel⟩
theorem mf_X3_takeWord : jMV yX3_takeWord cX3_takeWord 2 (some .boolean) RX3 1 := ⟨jq 630 (by decide +kernel) rfl, jq 629 (by decide +kernel) rfl, jq 15 (by decide +kernel) rfl, jq 65 (by decide +kernel) rfl, by decide +kernel, by decide +kernel, by decide +kernel⟩
theorem mf_X3_wordOfKind : jMS yX3_wordOfKind cX3_wordOfKind 1 (some (.object "java/lang/String")) 1 := ⟨jq 549 (by decide +kernel) rfl, jq 548 (by decide +kernel) rfl, jq 65 (by decide +kernel) rfl, by decide +kernel, by decide +kernel, by decide +kernel⟩
theorem mf_X3_wordOfTrait : jMS yX3_wordOfTrait cX3_wordOfTrait 1 (some (.object "java/lang/String")) 1 := ⟨jq 622 (by decide +kernel) rfl, jq 621 (by decide +kernel) rfl, jq 65 (by decide +kernel) rfl, by decide +kernel, by decide +kernel, by decide +kernel⟩
theorem mf_X3_wordIs : jMV yX3_wordIs cX3_wordIs 3 (some .boolean) RX3 1 := ⟨jq 560 (by decide +kernel) rfl, jq 559 (by decide +kernel) rfl, jq 12 (by decide +kernel) rfl, jq 65 (by decide +kernel) rfl, by decide +kernel, by decide +kernel, by decide +kernel⟩
theorem mf_X3_nextToken : jMV yX3_nextToken cX3_nextToken 1 none RX3 0 := ⟨jq 538 (by decide +kernel) rfl, jq 537 (by decide +kernel) rfl, jq 10 (by decide +kernel) rfl, jq 65 (by decide +kernel) rfl, by decide +kernel, by decide +kernel, by decide +kernel⟩
theorem mf_X3_sortOf : jMS yX3_sortOf cX3_sortOf 1 (some .int) 1 := ⟨jq 541 (by decide +kernel) rfl, jq 540 (by decide +kernel) rfl, jq 65 (by decide +kernel) rfl, by decide +kernel, by decide +kernel, by decide +kernel⟩
theorem mf_X4_set : jMV yX4_set cX4_set 4 (some .int) RX4 2 := ⟨jq 215 (by decide +kernel) rfl, jq 213 (by decide +kernel) rfl, jq 214 (by decide +kernel) rfl, jq 62 (by decide +kernel) rfl, by decide +kernel, by decide +kernel, by decide +kernel⟩
theorem mf_X4_home : jMV yX4_home cX4_home 2 (some .int) RX4 1 := ⟨jq 231 (by decide +kernel) rfl, jq 229 (by decide +kernel) rfl, jq 230 (by decide +kernel) rfl, jq 62 (by decide +kernel) rfl, by decide +kernel, by decide +kernel, by decide +kernel⟩
theorem mf_X4_blow : jMV yX4_blow cX4_blow 5 (some .int) RX4 3 := ⟨jq 235 (by decide +kernel) rfl, jq 233 (by decide +kernel) rfl, jq 234 (by decide +kernel) rfl, jq 62 (by decide +kernel) rfl, by decide +kernel, by decide +kernel, by decide +kernel⟩
theorem mf_X4_listed : jMV yX4_listed cX4_listed 2 (some .int) RX4 1 := ⟨jq 248 (by decide +kernel) rfl, jq 246 (by decide +kernel) rfl, jq 247 (by decide +kernel) rfl, jq 62 (by decide +kernel) rfl, by decide +kernel, by decide +kernel, by decide +kernel⟩
theorem mf_X4_thing : jMV yX4_thing cX4_thing 3 (some .int) RX4 2 := ⟨jq 252 (by decide +kernel) rfl, jq 250 (by decide +kernel) rfl, jq 251 (by decide +kernel) rfl, jq 62 (by decide +kernel) rfl, by decide +kernel, by decide +kernel, by decide +kernel⟩
theorem mf_X4_of : jMV yX4_of cX4_of 3 (some .int) RX4 2 := ⟨jq 269 (by decide +kernel) rfl, jq 267 (by decide +kernel) rfl, jq 268 (by decide +kernel) rfl, jq 62 (by decide +kernel) rfl, by decide +kernel, by decide +kernel, by decide +kernel⟩
theorem mf_X4_change : jMV yX4_change cX4_change 5 (some .int) RX4 3 := ⟨jq 327 (by decide +kernel) rfl, jq 325 (by decide +kernel) rfl, jq 326 (by decide +kernel) rfl, jq 62 (by decide +kernel) rfl, by decide +kernel, by decide +kernel, by decide +kernel⟩
theorem mf_X4_hurts : jMV yX4_hurts cX4_hurts 3 (some .int) RX4 2 := ⟨jq 333 (by decide +kernel) rfl, jq 331 (by decide +kernel) rfl, jq 332 (by decide +kernel) rfl, jq 62 (by decide +kernel) rfl, by decide +kernel, by decide +kernel, by decide +kernel⟩
theorem mf_X4_go : jMV yX4_go cX4_go 2 (some .int) RX4 1 := ⟨jq 344 (by decide +kernel) rfl, jq 342 (by decide +kernel) rfl, jq 343 (by decide +kernel) rfl, jq 62 (by decide +kernel) rfl, by decide +kernel, by decide +kernel, by decide +kernel⟩
theorem mf_X4_now : jMV yX4_now cX4_now 2 (some .int) RX4 1 := ⟨jq 381 (by decide +kernel) rfl, jq 379 (by decide +kernel) rfl, jq 380 (by decide +kernel) rfl, jq 62 (by decide +kernel) rfl, by decide +kernel, by decide +kernel, by decide +kernel⟩
theorem mf_X4_ahead : jMV yX4_ahead cX4_ahead 5 (some .int) RX4 3 := ⟨jq 395 (by decide +kernel) rfl, jq 393 (by decide +kernel) rfl, jq 394 (by decide +kernel) rfl, jq 62 (by decide +kernel) rfl, by decide +kernel, by decide +kernel, by decide +kernel⟩
theorem mf_X4_judged : jMV yX4_judged cX4_judged 2 (some .int) RX4 1 := ⟨jq 406 (by decide +kernel) rfl, jq 404 (by decide +kernel) rfl, jq 405 (by decide +kernel) rfl, jq 62 (by decide +kernel) rfl, by decide +kernel, by decide +kernel, by decide +kernel⟩
theorem mf_X4_worthless : jMV yX4_worthless cX4_worthless 4 (some .int) RX4 2 := ⟨jq 414 (by decide +kernel) rfl, jq 412 (by decide +kernel) rfl, jq 413 (by decide +kernel) rfl, jq 62 (by decide +kernel) rfl, by decide +kernel, by decide +kernel, by decide +kernel⟩
theorem mf_X4_owing : jMV yX4_owing cX4_owing 4 (some .int) RX4 2 := ⟨jq 419 (by decide +kernel) rfl, jq 417 (by decide +kernel) rfl, jq 418 (by decide +kernel) rfl, jq 62 (by decide +kernel) rfl, by decide +kernel, by decide +kernel, by decide +kernel⟩
theorem mf_X4_forgiven : jMV yX4_forgiven cX4_forgiven 2 (some .int) RX4 0 := ⟨jq 424 (by decide +kernel) rfl, jq 422 (by decide +kernel) rfl, jq 423 (by decide +kernel) rfl, jq 62 (by decide +kernel) rfl, by decide +kernel, by decide +kernel, by decide +kernel⟩
theorem mf_X4_claimFor : jMV yX4_claimFor cX4_claimFor 3 (some .int) RX4 2 := ⟨jq 428 (by decide +kernel) rfl, jq 426 (by decide +kernel) rfl, jq 427 (by decide +kernel) rfl, jq 62 (by decide +kernel) rfl, by decide +kernel, by decide +kernel, by decide +kernel⟩
theorem mf_X4_peopleFor : jMV yX4_peopleFor cX4_peopleFor 6 (some .int) RX4 1 := ⟨jq 432 (by decide +kernel) rfl, jq 430 (by decide +kernel) rfl, jq 431 (by decide +kernel) rfl, jq 62 (by decide +kernel) rfl, by decide +kernel, by decide +kernel, by decide +kernel⟩
theorem mf_X4_kindFor : jMV yX4_kindFor cX4_kindFor 7 (some .int) RX4 2 := ⟨jq 436 (by decide +kernel) rfl, jq 434 (by decide +kernel) rfl, jq 435 (by decide +kernel) rfl, jq 62 (by decide +kernel) rfl, by decide +kernel, by decide +kernel, by decide +kernel⟩
theorem mf_X4_forceFor : jMV yX4_forceFor cX4_forceFor 6 (some .int) RX4 3 := ⟨jq 440 (by decide +kernel) rfl, jq 438 (by decide +kernel) rfl, jq 439 (by decide +kernel) rfl, jq 62 (by decide +kernel) rfl, by decide +kernel, by decide +kernel, by decide +kernel⟩
theorem mf_X4_giveUp : jMV yX4_giveUp cX4_giveUp 6 (some .int) RX4 2 := ⟨jq 445 (by decide +kernel) rfl, jq 443 (by decide +kernel) rfl, jq 444 (by decide +kernel) rfl, jq 62 (by decide +kernel) rfl, by decide +kernel, by decide +kernel, by decide +kernel⟩
theorem mf_X4_fits : jMV yX4_fits cX4_fits 6 (some .int) RX4 2 := ⟨jq 460 (by decide +kernel) rfl, jq 458 (by decide +kernel) rfl, jq 459 (by decide +kernel) rfl, jq 62 (by decide +kernel) rfl, by decide +kernel, by decide +kernel, by decide +kernel⟩
theorem mf_X4_kinds : jMV yX4_kinds cX4_kinds 6 (some .int) RX4 2 := ⟨jq 487 (by decide +kernel) rfl, jq 485 (by decide +kernel) rfl, jq 486 (by decide +kernel) rfl, jq 62 (by decide +kernel) rfl, by decide +kernel, by decide +kernel, by decide +kernel⟩
theorem mf_X4_month : jMV yX4_month cX4_month 5 (some .int) RX4 1 := ⟨jq 495 (by decide +kernel) rfl, jq 493 (by decide +kernel) rfl, jq 494 (by decide +kernel) rfl, jq 62 (by decide +kernel) rfl, by decide +kernel, by decide +kernel, by decide +kernel⟩
theorem mf_X4_odds : jMV yX4_odds cX4_odds 8 (some .long) RX4 4 := ⟨jq 504 (by decide +kernel) rfl, jq 502 (by decide +kernel) rfl, jq 503 (by decide +kernel) rfl, jq 62 (by decide +kernel) rfl, by decide +kernel, by decide +kernel, by decide +kernel⟩
theorem mf_X4_seed : jMV yX4_seed cX4_seed 3 (some .int) RX4 1 := ⟨jq 514 (by decide +kernel) rfl, jq 512 (by decide +kernel) rfl, jq 513 (by decide +kernel) rfl, jq 62 (by decide +kernel) rfl, by decide +kernel, by decide +kernel, by decide +kernel⟩
theorem mf_X4_feed : jMV yX4_feed cX4_feed 4 (some .int) RX4 2 := ⟨jq 518 (by decide +kernel) rfl, jq 516 (by decide +kernel) rfl, jq 517 (by decide +kernel) rfl, jq 62 (by decide +kernel) rfl, by decide +kernel, by decide +kernel, by decide +kernel⟩
theorem mf_X4_wipe : jMV yX4_wipe cX4_wipe 2 (some .int) RX4 0 := ⟨jq 526 (by decide +kernel) rfl, jq 524 (by decide +kernel) rfl, jq 525 (by decide +kernel) rfl, jq 62 (by decide +kernel) rfl, by decide +kernel, by decide +kernel, by decide +kernel⟩
theorem mf_X4_text : jMV yX4_text cX4_text 2 (some .int) RX4 0 := ⟨jq 530 (by decide +kernel) rfl, jq 528 (by decide +kernel) rfl, jq 529 (by decide +kernel) rfl, jq 62 (by decide +kernel) rfl, by decide +kernel, by decide +kernel, by decide +kernel⟩
theorem mf_X4_hold : jMV yX4_hold cX4_hold 3 (some .int) RX4 2 := ⟨jq 650 (by decide +kernel) rfl, jq 648 (by decide +kernel) rfl, jq 649 (by decide +kernel) rfl, jq 62 (by decide +kernel) rfl, by decide +kernel, by decide +kernel, by decide +kernel⟩
theorem mf_X4_as : jMV yX4_as cX4_as 4 (some .int) RX4 2 := ⟨jq 657 (by decide +kernel) rfl, jq 655 (by decide +kernel) rfl, jq 656 (by decide +kernel) rfl, jq 62 (by decide +kernel) rfl, by decide +kernel, by decide +kernel, by decide +kernel⟩
theorem mf_X4_sheet : jMV yX4_sheet cX4_sheet 5 (some .int) RX4 3 := ⟨jq 667 (by decide +kernel) rfl, jq 665 (by decide +kernel) rfl, jq 666 (by decide +kernel) rfl, jq 62 (by decide +kernel) rfl, by decide +kernel, by decide +kernel, by decide +kernel⟩
theorem mf_X4_write : jMV yX4_write cX4_write 5 (some .int) RX4 3 := ⟨jq 676 (by decide +kernel) rfl, jq 674 (by decide +kernel) rfl, jq 675 (by decide +kernel) rfl, jq 62 (by decide +kernel) rfl, by decide +kernel, by decide +kernel, by decide +kernel⟩
theorem mf_X4_copy : jMV yX4_copy cX4_copy 8 (some .int) RX4 5 := ⟨jq 684 (by decide +kernel) rfl, jq 682 (by decide +kernel) rfl, jq 683 (by decide +kernel) rfl, jq 62 (by decide +kernel) rfl, by decide +kernel, by decide +kernel, by decide +kernel⟩
theorem mf_X4_load : jMV yX4_load cX4_load 6 (some .int) RX4 1 := ⟨jq 694 (by decide +kernel) rfl, jq 692 (by decide +kernel) rfl, jq 693 (by decide +kernel) rfl, jq 62 (by decide +kernel) rfl, by decide +kernel, by decide +kernel, by decide +kernel⟩
theorem mf_X4_judge : jMV yX4_judge cX4_judge 4 (some .int) RX4 1 := ⟨jq 698 (by decide +kernel) rfl, jq 696 (by decide +kernel) rfl, jq 697 (by decide +kernel) rfl, jq 62 (by decide +kernel) rfl, by decide +kernel, by decide +kernel, by decide +kernel⟩
theorem mf_X4_image : jMV yX4_image cX4_image 1 (some .int) RX4 0 := ⟨jq 702 (by decide +kernel) rfl, jq 700 (by decide +kernel) rfl, jq 701 (by decide +kernel) rfl, jq 62 (by decide +kernel) rfl, by decide +kernel, by decide +kernel, by decide +kernel⟩
theorem mf_X4_undo : jMV yX4_undo cX4_undo 1 (some .int) RX4 0 := ⟨jq 706 (by decide +kernel) rfl, jq 704 (by decide +kernel) rfl, jq 705 (by decide +kernel) rfl, jq 62 (by decide +kernel) rfl, by decide +kernel, by decide +kernel, by decide +kernel⟩
theorem mf_X4_tear : jMV yX4_tear cX4_tear 2 (some .int) RX4 0 := ⟨jq 710 (by decide +kernel) rfl, jq 708 (by decide +kernel) rfl, jq 709 (by decide +kernel) rfl, jq 62 (by decide +kernel) rfl, by decide +kernel, by decide +kernel, by decide +kernel⟩
theorem mf_X4_count : jMV yX4_count cX4_count 2 (some .int) RX4 1 := ⟨jq 714 (by decide +kernel) rfl, jq 712 (by decide +kernel) rfl, jq 713 (by decide +kernel) rfl, jq 62 (by decide +kernel) rfl, by decide +kernel, by decide +kernel, by decide +kernel⟩
theorem mf_X4_status : jMV yX4_status cX4_status 4 (some .int) RX4 1 := ⟨jq 722 (by decide +kernel) rfl, jq 720 (by decide +kernel) rfl, jq 721 (by decide +kernel) rfl, jq 62 (by decide +kernel) rfl, by decide +kernel, by decide +kernel, by decide +kernel⟩
theorem mf_X4_tell : jMV yX4_tell cX4_tell 2 (some .int) RX4 1 := ⟨jq 226 (by decide +kernel) rfl, jq 225 (by decide +kernel) rfl, jq 0 (by decide +kernel) rfl, jq 62 (by decide +kernel) rfl, by decide +kernel, by decide +kernel, by decide +kernel⟩
theorem mf_X4_within : jMS yX4_within cX4_within 3 (some .boolean) 3 := ⟨jq 218 (by decide +kernel) rfl, jq 217 (by decide +kernel) rfl, jq 62 (by decide +kernel) rfl, by decide +kernel, by decide +kernel, by decide +kernel⟩
theorem mf_X4_isThing : jMV yX4_isThing cX4_isThing 2 (some .boolean) RX4 1 := ⟨jq 273 (by decide +kernel) rfl, jq 272 (by decide +kernel) rfl, jq 1 (by decide +kernel) rfl, jq 62 (by decide +kernel) rfl, by decide +kernel, by decide +kernel, by decide +kernel⟩
theorem mf_X4_isKind : jMS yX4_isKind cX4_isKind 1 (some .boolean) 1 := ⟨jq 255 (by decide +kernel) rfl, jq 254 (by decide +kernel) rfl, jq 62 (by decide +kernel) rfl, by decide +kernel, by decide +kernel, by decide +kernel⟩
theorem mf_X4_isPlace : jMS yX4_isPlace cX4_isPlace 1 (some .boolean) 1 := ⟨jq 238 (by decide +kernel) rfl, jq 237 (by decide +kernel) rfl, jq 62 (by decide +kernel) rfl, by decide +kernel, by decide +kernel, by decide +kernel⟩
theorem mf_X4_isForce : jMS yX4_isForce cX4_isForce 1 (some .boolean) 1 := ⟨jq 241 (by decide +kernel) rfl, jq 240 (by decide +kernel) rfl, jq 62 (by decide +kernel) rfl, by decide +kernel, by decide +kernel, by decide +kernel⟩
theorem mf_X4_isSpot : jMS yX4_isSpot cX4_isSpot 1 (some .boolean) 1 := ⟨jq 653 (by decide +kernel) rfl, jq 652 (by decide +kernel) rfl, jq 62 (by decide +kernel) rfl, by decide +kernel, by decide +kernel, by decide +kernel⟩
theorem mf_X4_isSheet : jMS yX4_isSheet cX4_isSheet 1 (some .boolean) 1 := ⟨jq 471 (by decide +kernel) rfl, jq 470 (by decide +kernel) rfl, jq 62 (by decide +kernel) rfl, by decide +kernel, by decide +kernel, by decide +kernel⟩
theorem mf_X4_lackOf : jMV yX4_lackOf cX4_lackOf 2 (some .int) RX4 1 := ⟨jq 468 (by decide +kernel) rfl, jq 467 (by decide +kernel) rfl, jq 6 (by decide +kernel) rfl, jq 62 (by decide +kernel) rfl, by decide +kernel, by decide +kernel, by decide +kernel⟩
theorem mf_X4_lackFor : jMV yX4_lackFor cX4_lackFor 4 (some .int) RX4 2 := ⟨jq 464 (by decide +kernel) rfl, jq 463 (by decide +kernel) rfl, jq 5 (by decide +kernel) rfl, jq 62 (by decide +kernel) rfl, by decide +kernel, by decide +kernel, by decide +kernel⟩
theorem mf_X4_blowOf : jMS yX4_blowOf cX4_blowOf 2 (some .int) 2 := ⟨jq 244 (by decide +kernel) rfl, jq 243 (by decide +kernel) rfl, jq 62 (by decide +kernel) rfl, by decide +kernel, by decide +kernel, by decide +kernel⟩
theorem mf_X4_thingOfBlow : jMS yX4_thingOfBlow cX4_thingOfBlow 1 (some .int) 1 := ⟨jq 356 (by decide +kernel) rfl, jq 355 (by decide +kernel) rfl, jq 62 (by decide +kernel) rfl, by decide +kernel, by decide +kernel, by decide +kernel⟩
theorem mf_X4_forceOfBlow : jMS yX4_forceOfBlow cX4_forceOfBlow 1 (some .int) 1 := ⟨jq 359 (by decide +kernel) rfl, jq 358 (by decide +kernel) rfl, jq 62 (by decide +kernel) rfl, by decide +kernel, by decide +kernel, by decide +kernel⟩
theorem mf_X4_awardedBehind : jMV yX4_awardedBehind cX4_awardedBehind 2 (some .int) RX4 1 := ⟨jq 410 (by decide +kernel) rfl, jq 409 (by decide +kernel) rfl, jq 3 (by decide +kernel) rfl, jq 62 (by decide +kernel) rfl, by decide +kernel, by decide +kernel, by decide +kernel⟩
theorem mf_X4_leftWithout : jMV yX4_leftWithout cX4_leftWithout 4 (some .int) RX4 1 := ⟨jq 455 (by decide +kernel) rfl, jq 454 (by decide +kernel) rfl, jq 4 (by decide +kernel) rfl, jq 62 (by decide +kernel) rfl, by decide +kernel, by decide +kernel, by decide +kernel⟩
theorem mf_X4_foreseeWorses : jMV yX4_foreseeWorses cX4_foreseeWorses 3 none RX4 1 := ⟨jq 475 (by decide +kernel) rfl, jq 474 (by decide +kernel) rfl, jq 7 (by decide +kernel) rfl, jq 62 (by decide +kernel) rfl, by decide +kernel, by decide +kernel, by decide +kernel⟩
theorem mf_X4_ageFits : jMV yX4_ageFits cX4_ageFits 10 (some .boolean) RX4 3 := ⟨jq 480 (by decide +kernel) rfl, jq 479 (by decide +kernel) rfl, jq 8 (by decide +kernel) rfl, jq 62 (by decide +kernel) rfl, by decide +kernel, by decide +kernel, by decide +kernel⟩
theorem mf_X4_kindFits : jMV yX4_kindFits cX4_kindFits 7 (some .boolean) RX4 3 := ⟨jq 491 (by decide +kernel) rfl, jq 490 (by decide +kernel) rfl, jq 9 (by decide +kernel) rfl, jq 62 (by decide +kernel) rfl, by decide +kernel, by decide +kernel, by decide +kernel⟩
theorem mf_X4_commonDivisor : jMS yX4_commonDivisor cX4_commonDivisor 6 (some .int) 2 := ⟨jq 507 (by decide +kernel) rfl, jq 506 (by decide +kernel) rfl, jq 62 (by decide +kernel) rfl, by decide +kernel, by decide +kernel, by decide +kernel⟩
theorem mf_X4_power : jMS yX4_power cX4_power 5 (some .long) 2 := ⟨jq 510 (by decide +kernel) rfl, jq 509 (by decide +kernel) rfl, jq 62 (by decide +kernel) rfl, by decide +kernel, by decide +kernel, by decide +kernel⟩
theorem mf_X5_finds : jMV yX5_finds cX5_finds 2 (some .int) RX5 1 := ⟨jq 793 (by decide +kernel) rfl, jq 792 (by decide +kernel) rfl, jq 19 (by decide +kernel) rfl, jq 67 (by decide +kernel) rfl, by decide +kernel, by decide +kernel, by decide +kernel⟩
theorem mf_X5_orNone : jMV yX5_orNone cX5_orNone 2 (some .int) RX5 1 := ⟨jq 974 (by decide +kernel) rfl, jq 973 (by decide +kernel) rfl, jq 42 (by decide +kernel) rfl, jq 67 (by decide +kernel) rfl, by decide +kernel, by decide +kernel, by decide +kernel⟩
theorem mf_X5_in : jMS yX5_in cX5_in 3 (some .boolean) 3 := ⟨jq 781 (by decide +kernel) rfl, jq 780 (by decide +kernel) rfl, jq 67 (by decide +kernel) rfl, by decide +kernel, by decide +kernel, by decide +kernel⟩
theorem mf_X5_held : jMS yX5_held cX5_held 3 (some .int) 3 := ⟨jq 844 (by decide +kernel) rfl, jq 843 (by decide +kernel) rfl, jq 67 (by decide +kernel) rfl, by decide +kernel, by decide +kernel, by decide +kernel⟩
theorem mf_X5_copyAll : jMS yX5_copyAll cX5_copyAll 3 none 2 := ⟨jq 924 (by decide +kernel) rfl, jq 923 (by decide +kernel) rfl, jq 67 (by decide +kernel) rfl, by decide +kernel, by decide +kernel, by decide +kernel⟩
theorem mf_X5_becomes : jMV yX5_becomes cX5_becomes 4 (some .int) RX5 2 := ⟨jq 788 (by decide +kernel) rfl, jq 787 (by decide +kernel) rfl, jq 18 (by decide +kernel) rfl, jq 67 (by decide +kernel) rfl, by decide +kernel, by decide +kernel, by decide +kernel⟩
theorem mf_X5_isThing : jMV yX5_isThing cX5_isThing 2 (some .boolean) RX5 1 := ⟨jq 829 (by decide +kernel) rfl, jq 828 (by decide +kernel) rfl, jq 22 (by decide +kernel) rfl, jq 67 (by decide +kernel) rfl, by decide +kernel, by decide +kernel, by decide +kernel⟩
theorem mf_X5_isPlace : jMS yX5_isPlace cX5_isPlace 1 (some .boolean) 1 := ⟨jq 804 (by decide +kernel) rfl, jq 803 (by decide +kernel) rfl, jq 67 (by decide +kernel) rfl, by decide +kernel, by decide +kernel, by decide +kernel⟩
theorem mf_X5_it : jMV yX5_it cX5_it 3 (some .int) RX5 2 := ⟨jq 837 (by decide +kernel) rfl, jq 836 (by decide +kernel) rfl, jq 24 (by decide +kernel) rfl, jq 67 (by decide +kernel) rfl, by decide +kernel, by decide +kernel, by decide +kernel⟩
theorem mf_X5_put : jMV yX5_put cX5_put 4 none RX5 3 := ⟨jq 821 (by decide +kernel) rfl, jq 820 (by decide +kernel) rfl, jq 21 (by decide +kernel) rfl, jq 67 (by decide +kernel) rfl, by decide +kernel, by decide +kernel, by decide +kernel⟩
theorem mf_X5_bits : jMS yX5_bits cX5_bits 3 (some .int) 1 := ⟨jq 981 (by decide +kernel) rfl, jq 980 (by decide +kernel) rfl, jq 67 (by decide +kernel) rfl, by decide +kernel, by decide +kernel, by decide +kernel⟩
theorem mf_X5_lives : jMV yX5_lives cX5_lives 2 (some .int) RX5 1 := ⟨jq 833 (by decide +kernel) rfl, jq 832 (by decide +kernel) rfl, jq 23 (by decide +kernel) rfl, jq 67 (by decide +kernel) rfl, by decide +kernel, by decide +kernel, by decide +kernel⟩
theorem mf_X5_worth : jMV yX5_worth cX5_worth 7 (some .int) RX5 1 := ⟨jq 841 (by decide +kernel) rfl, jq 840 (by decide +kernel) rfl, jq 25 (by decide +kernel) rfl, jq 67 (by decide +kernel) rfl, by decide +kernel, by decide +kernel, by decide +kernel⟩
theorem mf_X5_fair : jMV yX5_fair cX5_fair 4 (some .int) RX5 1 := ⟨jq 848 (by decide +kernel) rfl, jq 847 (by decide +kernel) rfl, jq 26 (by decide +kernel) rfl, jq 67 (by decide +kernel) rfl, by decide +kernel, by decide +kernel, by decide +kernel⟩
theorem mf_X5_hurtsBy : jMV yX5_hurtsBy cX5_hurtsBy 3 (some .int) RX5 2 := ⟨jq 871 (by decide +kernel) rfl, jq 870 (by decide +kernel) rfl, jq 29 (by decide +kernel) rfl, jq 67 (by decide +kernel) rfl, by decide +kernel, by decide +kernel, by decide +kernel⟩
theorem mf_X5_worse : jMV yX5_worse cX5_worse 3 (some .int) RX5 1 := ⟨jq 852 (by decide +kernel) rfl, jq 851 (by decide +kernel) rfl, jq 27 (by decide +kernel) rfl, jq 67 (by decide +kernel) rfl, by decide +kernel, by decide +kernel, by decide +kernel⟩
theorem mf_X5_award : jMV yX5_award cX5_award 5 (some .int) RX5 1 := ⟨jq 856 (by decide +kernel) rfl, jq 855 (by decide +kernel) rfl, jq 28 (by decide +kernel) rfl, jq 67 (by decide +kernel) rfl, by decide +kernel, by decide +kernel, by decide +kernel⟩
theorem mf_X5_doMeet : jMV yX5_doMeet cX5_doMeet 1 (some .boolean) RX5 0 := ⟨jq 893 (by decide +kernel) rfl, jq 892 (by decide +kernel) rfl, jq 33 (by decide +kernel) rfl, jq 67 (by decide +kernel) rfl, by decide +kernel, by decide +kernel, by decide +kernel⟩
theorem mf_X5_awarded : jMV yX5_awarded cX5_awarded 3 (some .int) RX5 0 := ⟨jq 889 (by decide +kernel) rfl, jq 888 (by decide +kernel) rfl, jq 32 (by decide +kernel) rfl, jq 67 (by decide +kernel) rfl, by decide +kernel, by decide +kernel, by decide +kernel⟩
theorem mf_X5_mostOfHome : jMS yX5_mostOfHome cX5_mostOfHome 1 (some .int) 1 := ⟨jq 784 (by decide +kernel) rfl, jq 783 (by decide +kernel) rfl, jq 67 (by decide +kernel) rfl, by decide +kernel, by decide +kernel, by decide +kernel⟩
theorem mf_X5_set : jMV yX5_set cX5_set 3 (some .int) RX5 2 := ⟨jq 778 (by decide +kernel) rfl, jq 776 (by decide +kernel) rfl, jq 777 (by decide +kernel) rfl, jq 67 (by decide +kernel) rfl, by decide +kernel, by decide +kernel, by decide +kernel⟩
theorem mf_X5_home : jMV yX5_home cX5_home 2 (some .int) RX5 1 := ⟨jq 797 (by decide +kernel) rfl, jq 795 (by decide +kernel) rfl, jq 796 (by decide +kernel) rfl, jq 67 (by decide +kernel) rfl, by decide +kernel, by decide +kernel, by decide +kernel⟩
theorem mf_X5_blow : jMV yX5_blow cX5_blow 4 (some .int) RX5 3 := ⟨jq 801 (by decide +kernel) rfl, jq 799 (by decide +kernel) rfl, jq 800 (by decide +kernel) rfl, jq 67 (by decide +kernel) rfl, by decide +kernel, by decide +kernel, by decide +kernel⟩
theorem mf_X5_listed : jMV yX5_listed cX5_listed 2 (some .int) RX5 1 := ⟨jq 808 (by decide +kernel) rfl, jq 806 (by decide +kernel) rfl, jq 807 (by decide +kernel) rfl, jq 67 (by decide +kernel) rfl, by decide +kernel, by decide +kernel, by decide +kernel⟩
theorem mf_X5_comes : jMV yX5_comes cX5_comes 4 (some .int) RX5 2 := ⟨jq 817 (by decide +kernel) rfl, jq 816 (by decide +kernel) rfl, jq 20 (by decide +kernel) rfl, jq 67 (by decide +kernel) rfl, by decide +kernel, by decide +kernel, by decide +kernel⟩
theorem mf_X5_thing : jMV yX5_thing cX5_thing 3 (some .int) RX5 2 := ⟨jq 812 (by decide +kernel) rfl, jq 810 (by decide +kernel) rfl, jq 811 (by decide +kernel) rfl, jq 67 (by decide +kernel) rfl, by decide +kernel, by decide +kernel, by decide +kernel⟩
theorem mf_X5_of : jMV yX5_of cX5_of 3 (some .int) RX5 2 := ⟨jq 825 (by decide +kernel) rfl, jq 823 (by decide +kernel) rfl, jq 824 (by decide +kernel) rfl, jq 67 (by decide +kernel) rfl, by decide +kernel, by decide +kernel, by decide +kernel⟩
theorem mf_X5_mostOf : jMS yX5_mostOf cX5_mostOf 1 (some .int) 1 := ⟨jq 863 (by decide +kernel) rfl, jq 862 (by decide +kernel) rfl, jq 67 (by decide +kernel) rfl, by decide +kernel, by decide +kernel, by decide +kernel⟩
theorem mf_X5_change : jMV yX5_change cX5_change 4 (some .int) RX5 3 := ⟨jq 860 (by decide +kernel) rfl, jq 858 (by decide +kernel) rfl, jq 859 (by decide +kernel) rfl, jq 67 (by decide +kernel) rfl, by decide +kernel, by decide +kernel, by decide +kernel⟩
theorem mf_X5_hurts : jMV yX5_hurts cX5_hurts 3 (some .int) RX5 2 := ⟨jq 867 (by decide +kernel) rfl, jq 865 (by decide +kernel) rfl, jq 866 (by decide +kernel) rfl, jq 67 (by decide +kernel) rfl, by decide +kernel, by decide +kernel, by decide +kernel⟩
theorem mf_X5_goes : jMV yX5_goes cX5_goes 5 none RX5 0 := ⟨jq 885 (by decide +kernel) rfl, jq 884 (by decide +kernel) rfl, jq 31 (by decide +kernel) rfl, jq 67 (by decide +kernel) rfl, by decide +kernel, by decide +kernel, by decide +kernel⟩
theorem mf_X5_goesFor : jMV yX5_goesFor cX5_goesFor 3 none RX5 1 := ⟨jq 881 (by decide +kernel) rfl, jq 880 (by decide +kernel) rfl, jq 30 (by decide +kernel) rfl, jq 67 (by decide +kernel) rfl, by decide +kernel, by decide +kernel, by decide +kernel⟩
theorem mf_X5_go : jMV yX5_go cX5_go 2 (some .int) RX5 1 := ⟨jq 875 (by decide +kernel) rfl, jq 873 (by decide +kernel) rfl, jq 874 (by decide +kernel) rfl, jq 67 (by decide +kernel) rfl, by decide +kernel, by decide +kernel, by decide +kernel⟩
theorem mf_X5_claims : jMV yX5_claims cX5_claims 3 (some .int) RX5 0 := ⟨jq 901 (by decide +kernel) rfl, jq 900 (by decide +kernel) rfl, jq 34 (by decide +kernel) rfl, jq 67 (by decide +kernel) rfl, by decide +kernel, by decide +kernel, by decide +kernel⟩
theorem mf_X5_worseOnes : jMV yX5_worseOnes cX5_worseOnes 3 (some .int) RX5 0 := ⟨jq 905 (by decide +kernel) rfl, jq 904 (by decide +kernel) rfl, jq 35 (by decide +kernel) rfl, jq 67 (by decide +kernel) rfl, by decide +kernel, by decide +kernel, by decide +kernel⟩
theorem mf_X5_awardedOnes : jMV yX5_awardedOnes cX5_awardedOnes 3 (some .int) RX5 0 := ⟨jq 909 (by decide +kernel) rfl, jq 908 (by decide +kernel) rfl, jq 36 (by decide +kernel) rfl, jq 67 (by decide +kernel) rfl, by decide +kernel, by decide +kernel, by decide +kernel⟩
theorem mf_X5_allWorth : jMV yX5_allWorth cX5_allWorth 3 (some .int) RX5 0 := ⟨jq 913 (by decide +kernel) rfl, jq 912 (by decide +kernel) rfl, jq 37 (by decide +kernel) rfl, jq 67 (by decide +kernel) rfl, by decide +kernel, by decide +kernel, by decide +kernel⟩
theorem mf_X5_now : jMV yX5_now cX5_now 2 (some .int) RX5 1 := ⟨jq 897 (by decide +kernel) rfl, jq 895 (by decide +kernel) rfl, jq 896 (by decide +kernel) rfl, jq 67 (by decide +kernel) rfl, by decide +kernel, by decide +kernel, by decide +kernel⟩
theorem mf_X5_thinks : jMV yX5_thinks cX5_thinks 1 none RX5 0 := ⟨jq 921 (by decide +kernel) rfl, jq 920 (by decide +kernel) rfl, jq 38 (by decide +kernel) rfl, jq 67 (by decide +kernel) rfl, by decide +kernel, by decide +kernel, by decide +kernel⟩
theorem mf_X5_putsBack : jMV yX5_putsBack cX5_putsBack 1 none RX5 0 := ⟨jq 929 (by decide +kernel) rfl, jq 928 (by decide +kernel) rfl, jq 39 (by decide +kernel) rfl, jq 67 (by decide +kernel) rfl, by decide +kernel, by decide +kernel, by decide +kernel⟩
theorem mf_X5_ahead : jMV yX5_ahead cX5_ahead 6 (some .int) RX5 3 := ⟨jq 917 (by decide +kernel) rfl, jq 915 (by decide +kernel) rfl, jq 916 (by decide +kernel) rfl, jq 67 (by decide +kernel) rfl, by decide +kernel, by decide +kernel, by decide +kernel⟩
theorem mf_X5_awardedOn : jMV yX5_awardedOn cX5_awardedOn 3 (some .int) RX5 1 := ⟨jq 937 (by decide +kernel) rfl, jq 936 (by decide +kernel) rfl, jq 40 (by decide +kernel) rfl, jq 67 (by decide +kernel) rfl, by decide +kernel, by decide +kernel, by decide +kernel⟩
theorem mf_X5_judged : jMV yX5_judged cX5_judged 2 (some .int) RX5 1 := ⟨jq 933 (by decide +kernel) rfl, jq 931 (by decide +kernel) rfl, jq 932 (by decide +kernel) rfl, jq 67 (by decide +kernel) rfl, by decide +kernel, by decide +kernel, by decide +kernel⟩
theorem mf_X5_worthless : jMV yX5_worthless cX5_worthless 4 (some .int) RX5 2 := ⟨jq 941 (by decide +kernel) rfl, jq 939 (by decide +kernel) rfl, jq 940 (by decide +kernel) rfl, jq 67 (by decide +kernel) rfl, by decide +kernel, by decide +kernel, by decide +kernel⟩
theorem mf_X5_owing : jMV yX5_owing cX5_owing 4 (some .int) RX5 2 := ⟨jq 946 (by decide +kernel) rfl, jq 944 (by decide +kernel) rfl, jq 945 (by decide +kernel) rfl, jq 67 (by decide +kernel) rfl, by decide +kernel, by decide +kernel, by decide +kernel⟩
theorem mf_X5_forgiven : jMV yX5_forgiven cX5_forgiven 2 (some .int) RX5 0 := ⟨jq 950 (by decide +kernel) rfl, jq 948 (by decide +kernel) rfl, jq 949 (by decide +kernel) rfl, jq 67 (by decide +kernel) rfl, by decide +kernel, by decide +kernel, by decide +kernel⟩
theorem mf_X5_claimFor : jMV yX5_claimFor cX5_claimFor 7 (some .int) RX5 2 := ⟨jq 954 (by decide +kernel) rfl, jq 952 (by decide +kernel) rfl, jq 953 (by decide +kernel) rfl, jq 67 (by decide +kernel) rfl, by decide +kernel, by decide +kernel, by decide +kernel⟩
theorem mf_X5_leastBy : jMV yX5_leastBy cX5_leastBy 10 (some .int) RX5 4 := ⟨jq 962 (by decide +kernel) rfl, jq 961 (by decide +kernel) rfl, jq 41 (by decide +kernel) rfl, jq 67 (by decide +kernel) rfl, by decide +kernel, by decide +kernel, by decide +kernel⟩
theorem mf_X5_peopleFor : jMV yX5_peopleFor cX5_peopleFor 2 (some .int) RX5 1 := ⟨jq 958 (by decide +kernel) rfl, jq 956 (by decide +kernel) rfl, jq 957 (by decide +kernel) rfl, jq 67 (by decide +kernel) rfl, by decide +kernel, by decide +kernel, by decide +kernel⟩
theorem mf_X5_kindFor : jMV yX5_kindFor cX5_kindFor 3 (some .int) RX5 2 := ⟨jq 966 (by decide +kernel) rfl, jq 964 (by decide +kernel) rfl, jq 965 (by decide +kernel) rfl, jq 67 (by decide +kernel) rfl, by decide +kernel, by decide +kernel, by decide +kernel⟩
theorem mf_X5_forceFor : jMV yX5_forceFor cX5_forceFor 7 (some .int) RX5 3 := ⟨jq 970 (by decide +kernel) rfl, jq 968 (by decide +kernel) rfl, jq 969 (by decide +kernel) rfl, jq 67 (by decide +kernel) rfl, by decide +kernel, by decide +kernel, by decide +kernel⟩
theorem mf_X5_isLeft : jMV yX5_isLeft cX5_isLeft 5 (some .boolean) RX5 3 := ⟨jq 985 (by decide +kernel) rfl, jq 984 (by decide +kernel) rfl, jq 43 (by decide +kernel) rfl, jq 67 (by decide +kernel) rfl, by decide +kernel, by decide +kernel, by decide +kernel⟩
theorem mf_X5_giveUp : jMV yX5_giveUp cX5_giveUp 6 (some .int) RX5 2 := ⟨jq 978 (by decide +kernel) rfl, jq 976 (by decide +kernel) rfl, jq 977 (by decide +kernel) rfl, jq 67 (by decide +kernel) rfl, by decide +kernel, by decide +kernel, by decide +kernel⟩
theorem mf_X5_isSheet : jMS yX5_isSheet cX5_isSheet 1 (some .boolean) 1 := ⟨jq 1000 (by decide +kernel) rfl, jq 999 (by decide +kernel) rfl, jq 67 (by decide +kernel) rfl, by decide +kernel, by decide +kernel, by decide +kernel⟩
theorem mf_X5_notThere : jMV yX5_notThere cX5_notThere 2 (some .int) RX5 1 := ⟨jq 997 (by decide +kernel) rfl, jq 996 (by decide +kernel) rfl, jq 45 (by decide +kernel) rfl, jq 67 (by decide +kernel) rfl, by decide +kernel, by decide +kernel, by decide +kernel⟩
theorem mf_X5_notAsked : jMV yX5_notAsked cX5_notAsked 4 (some .int) RX5 2 := ⟨jq 993 (by decide +kernel) rfl, jq 992 (by decide +kernel) rfl, jq 44 (by decide +kernel) rfl, jq 67 (by decide +kernel) rfl, by decide +kernel, by decide +kernel, by decide +kernel⟩
theorem mf_X5_isTold : jMV yX5_isTold cX5_isTold 6 (some .boolean) RX5 2 := ⟨jq 1005 (by decide +kernel) rfl, jq 1004 (by decide +kernel) rfl, jq 46 (by decide +kernel) rfl, jq 67 (by decide +kernel) rfl, by decide +kernel, by decide +kernel, by decide +kernel⟩
theorem mf_X5_fits : jMV yX5_fits cX5_fits 6 (some .int) RX5 2 := ⟨jq 989 (by decide +kernel) rfl, jq 987 (by decide +kernel) rfl, jq 988 (by decide +kernel) rfl, jq 67 (by decide +kernel) rfl, by decide +kernel, by decide +kernel, by decide +kernel⟩
theorem mf_X5_kinds : jMV yX5_kinds cX5_kinds 6 (some .int) RX5 2 := ⟨jq 1009 (by decide +kernel) rfl, jq 1007 (by decide +kernel) rfl, jq 1008 (by decide +kernel) rfl, jq 67 (by decide +kernel) rfl, by decide +kernel, by decide +kernel, by decide +kernel⟩
theorem mf_X5_draw : jMV yX5_draw cX5_draw 1 (some .int) RX5 0 := ⟨jq 1017 (by decide +kernel) rfl, jq 1016 (by decide +kernel) rfl, jq 47 (by decide +kernel) rfl, jq 67 (by decide +kernel) rfl, by decide +kernel, by decide +kernel, by decide +kernel⟩
theorem mf_X5_month : jMV yX5_month cX5_month 4 (some .int) RX5 1 := ⟨jq 1013 (by decide +kernel) rfl, jq 1011 (by decide +kernel) rfl, jq 1012 (by decide +kernel) rfl, jq 67 (by decide +kernel) rfl, by decide +kernel, by decide +kernel, by decide +kernel⟩
theorem mf_X5_odds : jMV yX5_odds cX5_odds 10 (some .long) RX5 4 := ⟨jq 1022 (by decide +kernel) rfl, jq 1020 (by decide +kernel) rfl, jq 1021 (by decide +kernel) rfl, jq 67 (by decide +kernel) rfl, by decide +kernel, by decide +kernel, by decide +kernel⟩
theorem mf_X5_seed : jMV yX5_seed cX5_seed 2 (some .int) RX5 1 := ⟨jq 1026 (by decide +kernel) rfl, jq 1024 (by decide +kernel) rfl, jq 1025 (by decide +kernel) rfl, jq 67 (by decide +kernel) rfl, by decide +kernel, by decide +kernel, by decide +kernel⟩
theorem mf_X5_feed : jMV yX5_feed cX5_feed 4 (some .int) RX5 2 := ⟨jq 1030 (by decide +kernel) rfl, jq 1028 (by decide +kernel) rfl, jq 1029 (by decide +kernel) rfl, jq 67 (by decide +kernel) rfl, by decide +kernel, by decide +kernel, by decide +kernel⟩
theorem mf_X5_wipe : jMV yX5_wipe cX5_wipe 2 (some .int) RX5 0 := ⟨jq 1034 (by decide +kernel) rfl, jq 1032 (by decide +kernel) rfl, jq 1033 (by decide +kernel) rfl, jq 67 (by decide +kernel) rfl, by decide +kernel, by decide +kernel, by decide +kernel⟩
theorem mf_X5_isByte : jMV yX5_isByte cX5_isByte 4 (some .boolean) RX5 3 := ⟨jq 1046 (by decide +kernel) rfl, jq 1045 (by decide +kernel) rfl, jq 49 (by decide +kernel) rfl, jq 67 (by decide +kernel) rfl, by decide +kernel, by decide +kernel, by decide +kernel⟩
theorem mf_X5_isName : jMV yX5_isName cX5_isName 5 (some .boolean) RX5 2 := ⟨jq 1054 (by decide +kernel) rfl, jq 1053 (by decide +kernel) rfl, jq 51 (by decide +kernel) rfl, jq 67 (by decide +kernel) rfl, by decide +kernel, by decide +kernel, by decide +kernel⟩
theorem mf_X5_wordHere : jMV yX5_wordHere cX5_wordHere 2 (some .int) RX5 0 := ⟨jq 1050 (by decide +kernel) rfl, jq 1049 (by decide +kernel) rfl, jq 50 (by decide +kernel) rfl, jq 67 (by decide +kernel) rfl, by decide +kernel, by decide +kernel, by decide +kernel⟩
theorem mf_X5_reads : jMV yX5_reads cX5_reads 1 none RX5 0 := ⟨jq 1042 (by decide +kernel) rfl, jq 1041 (by decide +kernel) rfl, jq 48 (by decide +kernel) rfl, jq 67 (by decide +kernel) rfl, by decide +kernel, by decide +kernel, by decide +kernel⟩
theorem mf_X5_takes : jMV yX5_takes cX5_takes 2 (some .boolean) RX5 1 := ⟨jq 1076 (by decide +kernel) rfl, jq 1075 (by decide +kernel) rfl, jq 56 (by decide +kernel) rfl, jq 67 (by decide +kernel) rfl, by decide +kernel, by decide +kernel, by decide +kernel⟩
theorem mf_X5_number : jMV yX5_number cX5_number 4 (some .int) RX5 2 := ⟨jq 1068 (by decide +kernel) rfl, jq 1067 (by decide +kernel) rfl, jq 54 (by decide +kernel) rfl, jq 67 (by decide +kernel) rfl, by decide +kernel, by decide +kernel, by decide +kernel⟩
theorem mf_X5_perhaps : jMV yX5_perhaps cX5_perhaps 5 (some .int) RX5 4 := ⟨jq 1072 (by decide +kernel) rfl, jq 1071 (by decide +kernel) rfl, jq 55 (by decide +kernel) rfl, jq 67 (by decide +kernel) rfl, by decide +kernel, by decide +kernel, by decide +kernel⟩
theorem mf_X5_thingItem : jMV yX5_thingItem cX5_thingItem 7 none RX5 0 := ⟨jq 1064 (by decide +kernel) rfl, jq 1063 (by decide +kernel) rfl, jq 53 (by decide +kernel) rfl, jq 67 (by decide +kernel) rfl, by decide +kernel, by decide +kernel, by decide +kernel⟩
theorem mf_X5_twoItem : jMV yX5_twoItem cX5_twoItem 8 none RX5 5 := ⟨jq 1080 (by decide +kernel) rfl, jq 1079 (by decide +kernel) rfl, jq 57 (by decide +kernel) rfl, jq 67 (by decide +kernel) rfl, by decide +kernel, by decide +kernel, by decide +kernel⟩
theorem mf_X5_blowItem : jMV yX5_blowItem cX5_blowItem 4 none RX5 0 := ⟨jq 1084 (by decide +kernel) rfl, jq 1083 (by decide +kernel) rfl, jq 58 (by decide +kernel) rfl, jq 67 (by decide +kernel) rfl, by decide +kernel, by decide +kernel, by decide +kernel⟩
theorem mf_X5_item : jMV yX5_item cX5_item 1 none RX5 0 := ⟨jq 1060 (by decide +kernel) rfl, jq 1059 (by decide +kernel) rfl, jq 52 (by decide +kernel) rfl, jq 67 (by decide +kernel) rfl, by decide +kernel, by decide +kernel, by decide +kernel⟩
theorem mf_X5_text : jMV yX5_text cX5_text 2 (some .int) RX5 0 := ⟨jq 1038 (by decide +kernel) rfl, jq 1036 (by decide +kernel) rfl, jq 1037 (by decide +kernel) rfl, jq 67 (by decide +kernel) rfl, by decide +kernel, by decide +kernel, by decide +kernel⟩
theorem mf_X5_hold : jMV yX5_hold cX5_hold 3 (some .int) RX5 2 := ⟨jq 1088 (by decide +kernel) rfl, jq 1086 (by decide +kernel) rfl, jq 1087 (by decide +kernel) rfl, jq 67 (by decide +kernel) rfl, by decide +kernel, by decide +kernel, by decide +kernel⟩
theorem mf_X5_isUnder : jMS yX5_isUnder cX5_isUnder 3 (some .boolean) 2 := ⟨jq 1095 (by decide +kernel) rfl, jq 1094 (by decide +kernel) rfl, jq 67 (by decide +kernel) rfl, by decide +kernel, by decide +kernel, by decide +kernel⟩
theorem mf_X5_as : jMV yX5_as cX5_as 4 (some .int) RX5 2 := ⟨jq 1092 (by decide +kernel) rfl, jq 1090 (by decide +kernel) rfl, jq 1091 (by decide +kernel) rfl, jq 67 (by decide +kernel) rfl, by decide +kernel, by decide +kernel, by decide +kernel⟩
theorem mf_X5_sheet : jMV yX5_sheet cX5_sheet 5 (some .int) RX5 3 := ⟨jq 1100 (by decide +kernel) rfl, jq 1098 (by decide +kernel) rfl, jq 1099 (by decide +kernel) rfl, jq 67 (by decide +kernel) rfl, by decide +kernel, by decide +kernel, by decide +kernel⟩
theorem mf_X5_write : jMV yX5_write cX5_write 5 (some .int) RX5 3 := ⟨jq 1105 (by decide +kernel) rfl, jq 1103 (by decide +kernel) rfl, jq 1104 (by decide +kernel) rfl, jq 67 (by decide +kernel) rfl, by decide +kernel, by decide +kernel, by decide +kernel⟩
theorem mf_X5_notCopied : jMV yX5_notCopied cX5_notCopied 7 (some .int) RX5 5 := ⟨jq 1113 (by decide +kernel) rfl, jq 1112 (by decide +kernel) rfl, jq 59 (by decide +kernel) rfl, jq 67 (by decide +kernel) rfl, by decide +kernel, by decide +kernel, by decide +kernel⟩
theorem mf_X5_copy : jMV yX5_copy cX5_copy 9 (some .int) RX5 5 := ⟨jq 1109 (by decide +kernel) rfl, jq 1107 (by decide +kernel) rfl, jq 1108 (by decide +kernel) rfl, jq 67 (by decide +kernel) rfl, by decide +kernel, by decide +kernel, by decide +kernel⟩
theorem mf_X5_load : jMV yX5_load cX5_load 4 (some .int) RX5 1 := ⟨jq 1117 (by decide +kernel) rfl, jq 1115 (by decide +kernel) rfl, jq 1116 (by decide +kernel) rfl, jq 67 (by decide +kernel) rfl, by decide +kernel, by decide +kernel, by decide +kernel⟩
theorem mf_X5_judge : jMV yX5_judge cX5_judge 4 (some .int) RX5 1 := ⟨jq 1121 (by decide +kernel) rfl, jq 1119 (by decide +kernel) rfl, jq 1120 (by decide +kernel) rfl, jq 67 (by decide +kernel) rfl, by decide +kernel, by decide +kernel, by decide +kernel⟩
theorem mf_X5_image : jMV yX5_image cX5_image 1 (some .int) RX5 0 := ⟨jq 1125 (by decide +kernel) rfl, jq 1123 (by decide +kernel) rfl, jq 1124 (by decide +kernel) rfl, jq 67 (by decide +kernel) rfl, by decide +kernel, by decide +kernel, by decide +kernel⟩
theorem mf_X5_undo : jMV yX5_undo cX5_undo 1 (some .int) RX5 0 := ⟨jq 1129 (by decide +kernel) rfl, jq 1127 (by decide +kernel) rfl, jq 1128 (by decide +kernel) rfl, jq 67 (by decide +kernel) rfl, by decide +kernel, by decide +kernel, by decide +kernel⟩
theorem mf_X5_tear : jMV yX5_tear cX5_tear 2 (some .int) RX5 0 := ⟨jq 1133 (by decide +kernel) rfl, jq 1131 (by decide +kernel) rfl, jq 1132 (by decide +kernel) rfl, jq 67 (by decide +kernel) rfl, by decide +kernel, by decide +kernel, by decide +kernel⟩
theorem mf_X5_manyHeld : jMV yX5_manyHeld cX5_manyHeld 3 (some .int) RX5 0 := ⟨jq 1141 (by decide +kernel) rfl, jq 1140 (by decide +kernel) rfl, jq 60 (by decide +kernel) rfl, jq 67 (by decide +kernel) rfl, by decide +kernel, by decide +kernel, by decide +kernel⟩
theorem mf_X5_count : jMV yX5_count cX5_count 2 (some .int) RX5 1 := ⟨jq 1137 (by decide +kernel) rfl, jq 1135 (by decide +kernel) rfl, jq 1136 (by decide +kernel) rfl, jq 67 (by decide +kernel) rfl, by decide +kernel, by decide +kernel, by decide +kernel⟩
theorem mf_X5_status : jMV yX5_status cX5_status 4 (some .int) RX5 1 := ⟨jq 1145 (by decide +kernel) rfl, jq 1143 (by decide +kernel) rfl, jq 1144 (by decide +kernel) rfl, jq 67 (by decide +kernel) rfl, by decide +kernel, by decide +kernel, by decide +kernel⟩
theorem mf_J6_bitCount_0f7a4 : jMS yJ6_bitCount_0f7a4 cJ6_bitCount_0f7a4 1 (some .int) 1 := ⟨jq 448 (by decide +kernel) rfl, jq 447 (by decide +kernel) rfl, jq 71 (by decide +kernel) rfl, by decide +kernel, by decide +kernel, by decide +kernel⟩
theorem mf_J9_max_7cf53 : jMS yJ9_max_7cf53 cJ9_max_7cf53 2 (some .int) 2 := ⟨jq 298 (by decide +kernel) rfl, jq 297 (by decide +kernel) rfl, jq 69 (by decide +kernel) rfl, by decide +kernel, by decide +kernel, by decide +kernel⟩
theorem mf_J9_min_7cf53 : jMS yJ9_min_7cf53 cJ9_min_7cf53 2 (some .int) 2 := ⟨jq 301 (by decide +kernel) rfl, jq 300 (by decide +kernel) rfl, jq 69 (by decide +kernel) rfl, by decide +kernel, by decide +kernel, by decide +kernel⟩
theorem mf_J0_length_8abf5 : jMV yJ0_length_8abf5 cJ0_length_8abf5 1 (some .int) RJ0 0 := ⟨jq 564 (by decide +kernel) rfl, jq 562 (by decide +kernel) rfl, jq 563 (by decide +kernel) rfl, jq 72 (by decide +kernel) rfl, by decide +kernel, by decide +kernel, by decide +kernel⟩
theorem mf_J0_charAt_5068e : jMV yJ0_charAt_5068e cJ0_charAt_5068e 2 (some .char) RJ0 1 := ⟨jq 574 (by decide +kernel) rfl, jq 572 (by decide +kernel) rfl, jq 573 (by decide +kernel) rfl, jq 72 (by decide +kernel) rfl, by decide +kernel, by decide +kernel, by decide +kernel⟩
theorem mf_J0_coder_7d493 : jMV yJ0_coder_7d493 cJ0_coder_7d493 1 (some .byte) RJ0 0 := ⟨jq 568 (by decide +kernel) rfl, jq 566 (by decide +kernel) rfl, jq 567 (by decide +kernel) rfl, jq 72 (by decide +kernel) rfl, by decide +kernel, by decide +kernel, by decide +kernel⟩
theorem mf_J0_isLatin1_aae02 : jMV yJ0_isLatin1_aae02 cJ0_isLatin1_aae02 1 (some .boolean) RJ0 0 := ⟨jq 578 (by decide +kernel) rfl, jq 576 (by decide +kernel) rfl, jq 577 (by decide +kernel) rfl, jq 72 (by decide +kernel) rfl, by decide +kernel, by decide +kernel, by decide +kernel⟩
theorem mf_J0_checkIndex_df160 : jMS yJ0_checkIndex_df160 cJ0_checkIndex_df160 2 none 2 := ⟨jq 584 (by decide +kernel) rfl, jq 583 (by decide +kernel) rfl, jq 72 (by decide +kernel) rfl, by decide +kernel, by decide +kernel, by decide +kernel⟩
theorem mf_J1_charAt_3b067 : jMS yJ1_charAt_3b067 cJ1_charAt_3b067 2 (some .char) 2 := ⟨jq 581 (by decide +kernel) rfl, jq 580 (by decide +kernel) rfl, jq 73 (by decide +kernel) rfl, by decide +kernel, by decide +kernel, by decide +kernel⟩
theorem mf_J2_getChar_3b067 : jMS yJ2_getChar_3b067 cJ2_getChar_3b067 2 (some .char) 2 := ⟨jq 602 (by decide +kernel) rfl, jq 601 (by decide +kernel) rfl, jq 75 (by decide +kernel) rfl, by decide +kernel, by decide +kernel, by decide +kernel⟩
theorem mf_J2_length_9d52b : jMS yJ2_length_9d52b cJ2_length_9d52b 1 (some .int) 1 := ⟨jq 598 (by decide +kernel) rfl, jq 597 (by decide +kernel) rfl, jq 75 (by decide +kernel) rfl, by decide +kernel, by decide +kernel, by decide +kernel⟩
theorem mf_J2_charAt_3b067 : jMS yJ2_charAt_3b067 cJ2_charAt_3b067 2 (some .char) 2 := ⟨jq 592 (by decide +kernel) rfl, jq 591 (by decide +kernel) rfl, jq 75 (by decide +kernel) rfl, by decide +kernel, by decide +kernel, by decide +kernel⟩
theorem mf_J2_checkIndex_2214a : jMS yJ2_checkIndex_2214a cJ2_checkIndex_2214a 2 none 2 := ⟨jq 595 (by decide +kernel) rfl, jq 594 (by decide +kernel) rfl, jq 75 (by decide +kernel) rfl, by decide +kernel, by decide +kernel, by decide +kernel⟩
theorem mf_J7_fill_53178 : jMS yJ7_fill_53178 cJ7_fill_53178 4 none 2 := ⟨jq 101 (by decide +kernel) rfl, jq 100 (by decide +kernel) rfl, jq 64 (by decide +kernel) rfl, by decide +kernel, by decide +kernel, by decide +kernel⟩
theorem mf_J3_checkIndex_8e157 : jMS yJ3_checkIndex_8e157 cJ3_checkIndex_8e157 3 (some .int) 3 := ⟨jq 589 (by decide +kernel) rfl, jq 588 (by decide +kernel) rfl, jq 74 (by decide +kernel) rfl, by decide +kernel, by decide +kernel, by decide +kernel⟩
theorem kl_L_9 : Cond.methodLink RL 9 yX4_init ∈ jGW := jq 78 (by decide +kernel) rfl
theorem kl_X4_9 : Cond.methodLink RX4 9 yX0_init ∈ jGW := jq 86 (by decide +kernel) rfl
theorem kl_X0_42 : Cond.methodLink RX0 42 yJ7_fill_53178 ∈ jGW := jq 99 (by decide +kernel) rfl
theorem kl_X4_24 : Cond.methodLinkNest RX4 24 yX3_init "JudgedDeposits" ∈ lw_tbl := List.mem_of_getElem? (i := 136) (by decide +kernel)
theorem kl_X4_49 : Cond.methodLinkNest RX4 49 yX2_init "JudgedDeposits" ∈ lw_tbl := List.mem_of_getElem? (i := 167) (by decide +kernel)
theorem kl_L_13 : Cond.methodLink RL 13 yX4_set ∈ jGW := jq 212 (by decide +kernel) rfl
theorem kl_X4_50 : Cond.methodLink RX4 50 yX4_within ∈ jGW := jq 216 (by decide +kernel) rfl
theorem kl_X4_60 : Cond.methodLink RX4 60 yX4_tell ∈ jGW := jq 223 (by decide +kernel) rfl
theorem kc_X4_243 : Cond.constant RX4 243 (-1000001) ∈ jGW := jq 227 (by decide +kernel) rfl
theorem kl_L_18 : Cond.methodLink RL 18 yX4_home ∈ jGW := jq 228 (by decide +kernel) rfl
theorem kl_L_23 : Cond.methodLink RL 23 yX4_blow ∈ jGW := jq 232 (by decide +kernel) rfl
theorem kl_X4_67 : Cond.methodLink RX4 67 yX4_isPlace ∈ jGW := jq 236 (by decide +kernel) rfl
theorem kl_X4_71 : Cond.methodLink RX4 71 yX4_isForce ∈ jGW := jq 239 (by decide +kernel) rfl
theorem kl_X4_77 : Cond.methodLink RX4 77 yX4_blowOf ∈ jGW := jq 242 (by decide +kernel) rfl
theorem kl_L_28 : Cond.methodLink RL 28 yX4_listed ∈ jGW := jq 245 (by decide +kernel) rfl
theorem kl_L_32 : Cond.methodLink RL 32 yX4_thing ∈ jGW := jq 249 (by decide +kernel) rfl
theorem kl_X4_81 : Cond.methodLink RX4 81 yX4_isKind ∈ jGW := jq 253 (by decide +kernel) rfl
theorem kl_X4_91 : Cond.methodLink RX4 91 yX0_add ∈ jGW := jq 258 (by decide +kernel) rfl
theorem kl_X0_54 : Cond.methodLink RX0 54 yX0_put ∈ jGW := jq 262 (by decide +kernel) rfl
theorem kl_L_36 : Cond.methodLink RL 36 yX4_of ∈ jGW := jq 266 (by decide +kernel) rfl
theorem kl_X4_94 : Cond.methodLink RX4 94 yX4_isThing ∈ jGW := jq 270 (by decide +kernel) rfl
theorem kl_X4_97 : Cond.methodLink RX4 97 yX0_told ∈ jGW := jq 274 (by decide +kernel) rfl
theorem kl_X0_58 : Cond.methodLink RX0 58 yX0_trait ∈ jGW := jq 278 (by decide +kernel) rfl
theorem kl_X0_62 : Cond.methodLink RX0 62 yX1_lives ∈ jGW := jq 282 (by decide +kernel) rfl
theorem kl_X0_67 : Cond.methodLink RX0 67 yX0_worth ∈ jGW := jq 285 (by decide +kernel) rfl
theorem kl_X0_84 : Cond.methodLink RX0 84 yX1_worth ∈ jGW := jq 289 (by decide +kernel) rfl
theorem kl_X1_19 : Cond.methodLink RX1 19 yX1_lives ∈ jGW := jq 292 (by decide +kernel) rfl
theorem kl_X1_23 : Cond.methodLink RX1 23 yX1_shareLeft ∈ jGW := jq 293 (by decide +kernel) rfl
theorem kl_X0_71 : Cond.methodLink RX0 71 yX0_fair ∈ jGW := jq 302 (by decide +kernel) rfl
theorem kl_X0_87 : Cond.methodLink RX0 87 yX1_fair ∈ jGW := jq 306 (by decide +kernel) rfl
theorem kl_X0_74 : Cond.methodLink RX0 74 yX0_worse ∈ jGW := jq 309 (by decide +kernel) rfl
theorem kl_X0_77 : Cond.methodLink RX0 77 yX0_award ∈ jGW := jq 314 (by decide +kernel) rfl
theorem kl_X0_97 : Cond.methodLink RX0 97 yX0_awardOf ∈ jGW := jq 318 (by decide +kernel) rfl
theorem kl_X0_80 : Cond.methodLinkNest RX0 80 yX4_within "JudgedDeposits" ∈ lw_tbl := List.mem_of_getElem? (i := 323) (by decide +kernel)
theorem kl_L_40 : Cond.methodLink RL 40 yX4_change ∈ jGW := jq 324 (by decide +kernel) rfl
theorem kl_X4_100 : Cond.methodLink RX4 100 yX0_trait ∈ jGW := jq 328 (by decide +kernel) rfl
theorem kl_X4_103 : Cond.methodLink RX4 103 yX0_put ∈ jGW := jq 329 (by decide +kernel) rfl
theorem kl_L_44 : Cond.methodLink RL 44 yX4_hurts ∈ jGW := jq 330 (by decide +kernel) rfl
theorem kl_X4_107 : Cond.methodLink RX4 107 yX0_hurt ∈ jGW := jq 334 (by decide +kernel) rfl
theorem kl_X0_89 : Cond.methodLink RX0 89 yX1_hurt ∈ jGW := jq 338 (by decide +kernel) rfl
theorem kl_L_48 : Cond.methodLink RL 48 yX4_go ∈ jGW := jq 341 (by decide +kernel) rfl
theorem kc_X4_113 : Cond.constant RX4 113 (99999) ∈ jGW := jq 345 (by decide +kernel) rfl
theorem kl_X4_114 : Cond.methodLink RX4 114 yX0_passDays ∈ jGW := jq 346 (by decide +kernel) rfl
theorem kl_X0_114 : Cond.methodLink RX0 114 yX0_passDay ∈ jGW := jq 350 (by decide +kernel) rfl
theorem kl_X0_117 : Cond.methodLinkNest RX0 117 yX4_thingOfBlow "JudgedDeposits" ∈ lw_tbl := List.mem_of_getElem? (i := 354) (by decide +kernel)
theorem kl_X0_120 : Cond.methodLinkNest RX0 120 yX4_forceOfBlow "JudgedDeposits" ∈ lw_tbl := List.mem_of_getElem? (i := 357) (by decide +kernel)
theorem kl_X0_123 : Cond.methodLink RX0 123 yX0_hurt ∈ jGW := jq 360 (by decide +kernel) rfl
theorem kl_X0_125 : Cond.methodLink RX0 125 yX0_lower ∈ jGW := jq 361 (by decide +kernel) rfl
theorem kc_X0_129 : Cond.constant RX0 129 (99999) ∈ jGW := jq 365 (by decide +kernel) rfl
theorem kl_X4_118 : Cond.methodLink RX4 118 yX0_awarded ∈ jGW := jq 366 (by decide +kernel) rfl
theorem kl_X0_103 : Cond.methodLink RX0 103 yX0_awardedOf ∈ jGW := jq 370 (by decide +kernel) rfl
theorem kl_X0_106 : Cond.methodLink RX0 106 yX0_offersMeet ∈ jGW := jq 374 (by decide +kernel) rfl
theorem kl_L_52 : Cond.methodLink RL 52 yX4_now ∈ jGW := jq 378 (by decide +kernel) rfl
theorem kl_X4_122 : Cond.methodLink RX4 122 yX0_sum ∈ jGW := jq 382 (by decide +kernel) rfl
theorem kl_X0_110 : Cond.methodLink RX0 110 yX0_told ∈ jGW := jq 386 (by decide +kernel) rfl
theorem kl_X4_125 : Cond.methodLink RX4 125 yX0_thingsWith ∈ jGW := jq 387 (by decide +kernel) rfl
theorem kl_X4_128 : Cond.methodLink RX4 128 yX0_offersMeet ∈ jGW := jq 391 (by decide +kernel) rfl
theorem kl_L_56 : Cond.methodLink RL 56 yX4_ahead ∈ jGW := jq 392 (by decide +kernel) rfl
theorem kl_X4_132 : Cond.methodLink RX4 132 yX0_become ∈ jGW := jq 396 (by decide +kernel) rfl
theorem kl_L_60 : Cond.methodLink RL 60 yX4_judged ∈ jGW := jq 403 (by decide +kernel) rfl
theorem kl_X4_136 : Cond.methodLink RX4 136 yX4_awardedBehind ∈ jGW := jq 407 (by decide +kernel) rfl
theorem kl_L_64 : Cond.methodLink RL 64 yX4_worthless ∈ jGW := jq 411 (by decide +kernel) rfl
theorem kl_X4_139 : Cond.methodLink RX4 139 yX0_passDay ∈ jGW := jq 415 (by decide +kernel) rfl
theorem kl_L_68 : Cond.methodLink RL 68 yX4_owing ∈ jGW := jq 416 (by decide +kernel) rfl
theorem kl_X4_142 : Cond.methodLink RX4 142 yX0_award ∈ jGW := jq 420 (by decide +kernel) rfl
theorem kl_L_72 : Cond.methodLink RL 72 yX4_forgiven ∈ jGW := jq 421 (by decide +kernel) rfl
theorem kl_L_77 : Cond.methodLink RL 77 yX4_claimFor ∈ jGW := jq 425 (by decide +kernel) rfl
theorem kl_L_81 : Cond.methodLink RL 81 yX4_peopleFor ∈ jGW := jq 429 (by decide +kernel) rfl
theorem kl_L_85 : Cond.methodLink RL 85 yX4_kindFor ∈ jGW := jq 433 (by decide +kernel) rfl
theorem kl_L_89 : Cond.methodLink RL 89 yX4_forceFor ∈ jGW := jq 437 (by decide +kernel) rfl
theorem kl_X4_145 : Cond.methodLink RX4 145 yX4_thingOfBlow ∈ jGW := jq 441 (by decide +kernel) rfl
theorem kl_L_93 : Cond.methodLink RL 93 yX4_giveUp ∈ jGW := jq 442 (by decide +kernel) rfl
theorem kl_X4_148 : Cond.methodLink RX4 148 yJ6_bitCount_0f7a4 ∈ jGW := jq 446 (by decide +kernel) rfl
theorem kc_J6_265 : Cond.constant RJ6 265 (1431655765) ∈ jGW := jq 449 (by decide +kernel) rfl
theorem kc_J6_266 : Cond.constant RJ6 266 (858993459) ∈ jGW := jq 450 (by decide +kernel) rfl
theorem kc_J6_267 : Cond.constant RJ6 267 (252645135) ∈ jGW := jq 451 (by decide +kernel) rfl
theorem kl_X4_153 : Cond.methodLink RX4 153 yX4_leftWithout ∈ jGW := jq 452 (by decide +kernel) rfl
theorem kl_X4_244 : Cond.methodLink RX4 244 yX0_awardedOf ∈ jGW := jq 456 (by decide +kernel) rfl
theorem kl_L_97 : Cond.methodLink RL 97 yX4_fits ∈ jGW := jq 457 (by decide +kernel) rfl
theorem kl_X4_156 : Cond.methodLink RX4 156 yX4_lackFor ∈ jGW := jq 461 (by decide +kernel) rfl
theorem kl_X4_215 : Cond.methodLink RX4 215 yX4_lackOf ∈ jGW := jq 465 (by decide +kernel) rfl
theorem kl_X4_205 : Cond.methodLink RX4 205 yX4_isSheet ∈ jGW := jq 469 (by decide +kernel) rfl
theorem kl_X4_159 : Cond.methodLink RX4 159 yX4_foreseeWorses ∈ jGW := jq 472 (by decide +kernel) rfl
theorem kl_X4_247 : Cond.methodLink RX4 247 yX0_worse ∈ jGW := jq 476 (by decide +kernel) rfl
theorem kl_X4_162 : Cond.methodLink RX4 162 yX4_ageFits ∈ jGW := jq 477 (by decide +kernel) rfl
theorem kl_X4_250 : Cond.methodLink RX4 250 yX1_worth ∈ jGW := jq 482 (by decide +kernel) rfl
theorem kl_X4_254 : Cond.methodLink RX4 254 yX0_awardOf ∈ jGW := jq 483 (by decide +kernel) rfl
theorem kl_L_101 : Cond.methodLink RL 101 yX4_kinds ∈ jGW := jq 484 (by decide +kernel) rfl
theorem kl_X4_166 : Cond.methodLink RX4 166 yX4_kindFits ∈ jGW := jq 488 (by decide +kernel) rfl
theorem kl_L_105 : Cond.methodLink RL 105 yX4_month ∈ jGW := jq 492 (by decide +kernel) rfl
theorem kl_X4_169 : Cond.methodLink RX4 169 yX0_draw ∈ jGW := jq 496 (by decide +kernel) rfl
theorem kc_X0_113 : Cond.constant RX0 113 (1103515245) ∈ jGW := jq 500 (by decide +kernel) rfl
theorem kl_L_109 : Cond.methodLink RL 109 yX4_odds ∈ jGW := jq 501 (by decide +kernel) rfl
theorem kl_X4_172 : Cond.methodLink RX4 172 yX4_commonDivisor ∈ jGW := jq 505 (by decide +kernel) rfl
theorem kl_X4_175 : Cond.methodLink RX4 175 yX4_power ∈ jGW := jq 508 (by decide +kernel) rfl
theorem kl_L_114 : Cond.methodLink RL 114 yX4_seed ∈ jGW := jq 511 (by decide +kernel) rfl
theorem kl_L_118 : Cond.methodLink RL 118 yX4_feed ∈ jGW := jq 515 (by decide +kernel) rfl
theorem kl_X4_185 : Cond.methodLink RX4 185 yX3_append ∈ jGW := jq 519 (by decide +kernel) rfl
theorem kl_L_122 : Cond.methodLink RL 122 yX4_wipe ∈ jGW := jq 523 (by decide +kernel) rfl
theorem kl_L_126 : Cond.methodLink RL 126 yX4_text ∈ jGW := jq 527 (by decide +kernel) rfl
theorem kl_X4_189 : Cond.methodLink RX4 189 yX3_readItems ∈ jGW := jq 531 (by decide +kernel) rfl
theorem kl_X3_34 : Cond.methodLink RX3 34 yX3_nextToken ∈ jGW := jq 535 (by decide +kernel) rfl
theorem kl_X3_143 : Cond.methodLink RX3 143 yX3_sortOf ∈ jGW := jq 539 (by decide +kernel) rfl
theorem kl_X3_37 : Cond.methodLink RX3 37 yX3_readItem ∈ jGW := jq 543 (by decide +kernel) rfl
theorem kl_X3_41 : Cond.methodLink RX3 41 yX3_wordOfKind ∈ jGW := jq 547 (by decide +kernel) rfl
theorem kl_X3_45 : Cond.methodLink RX3 45 yX3_wordIs ∈ jGW := jq 557 (by decide +kernel) rfl
theorem kl_X3_134 : Cond.methodLink RX3 134 yJ0_length_8abf5 ∈ jGW := jq 561 (by decide +kernel) rfl
theorem kl_J0_335 : Cond.methodLink RJ0 335 yJ0_coder_7d493 ∈ jGW := jq 565 (by decide +kernel) rfl
theorem kl_X3_139 : Cond.methodLink RX3 139 yJ0_charAt_5068e ∈ jGW := jq 571 (by decide +kernel) rfl
theorem kl_J0_492 : Cond.methodLink RJ0 492 yJ0_isLatin1_aae02 ∈ jGW := jq 575 (by decide +kernel) rfl
theorem kl_J0_495 : Cond.methodLink RJ0 495 yJ1_charAt_3b067 ∈ jGW := jq 579 (by decide +kernel) rfl
theorem kl_J1_9 : Cond.methodLink RJ1 9 yJ0_checkIndex_df160 ∈ jGW := jq 582 (by decide +kernel) rfl
theorem kl_J0_1059 : Cond.methodLink RJ0 1059 yJ3_checkIndex_8e157 ∈ jGW := jq 587 (by decide +kernel) rfl
theorem kl_J0_498 : Cond.methodLink RJ0 498 yJ2_charAt_3b067 ∈ jGW := jq 590 (by decide +kernel) rfl
theorem kl_J2_67 : Cond.methodLink RJ2 67 yJ2_checkIndex_2214a ∈ jGW := jq 593 (by decide +kernel) rfl
theorem kl_J2_48 : Cond.methodLink RJ2 48 yJ2_length_9d52b ∈ jGW := jq 596 (by decide +kernel) rfl
theorem kl_J2_414 : Cond.methodLink RJ2 414 yJ0_checkIndex_df160 ∈ jGW := jq 599 (by decide +kernel) rfl
theorem kl_J2_71 : Cond.methodLink RJ2 71 yJ2_getChar_3b067 ∈ jGW := jq 600 (by decide +kernel) rfl
theorem kl_X3_49 : Cond.methodLink RX3 49 yX3_readThing ∈ jGW := jq 609 (by decide +kernel) rfl
theorem kl_X3_79 : Cond.methodLink RX3 79 yX3_takeNumber ∈ jGW := jq 614 (by decide +kernel) rfl
theorem kl_X3_108 : Cond.methodLinkNest RX3 108 yX4_within "JudgedDeposits" ∈ lw_tbl := List.mem_of_getElem? (i := 618) (by decide +kernel)
theorem kl_X3_83 : Cond.methodLink RX3 83 yX0_add ∈ jGW := jq 619 (by decide +kernel) rfl
theorem kl_X3_87 : Cond.methodLink RX3 87 yX3_wordOfTrait ∈ jGW := jq 620 (by decide +kernel) rfl
theorem kl_X3_55 : Cond.methodLink RX3 55 yX3_takeWord ∈ jGW := jq 627 (by decide +kernel) rfl
theorem kl_X3_90 : Cond.methodLink RX3 90 yX0_put ∈ jGW := jq 631 (by decide +kernel) rfl
theorem kl_X3_58 : Cond.methodLink RX3 58 yX3_takeHome ∈ jGW := jq 633 (by decide +kernel) rfl
theorem kl_X3_67 : Cond.methodLink RX3 67 yX3_readBlow ∈ jGW := jq 642 (by decide +kernel) rfl
theorem kl_X3_105 : Cond.methodLinkNest RX3 105 yX4_blowOf "JudgedDeposits" ∈ lw_tbl := List.mem_of_getElem? (i := 646) (by decide +kernel)
theorem kl_L_130 : Cond.methodLink RL 130 yX4_hold ∈ jGW := jq 647 (by decide +kernel) rfl
theorem kl_X4_193 : Cond.methodLink RX4 193 yX4_isSpot ∈ jGW := jq 651 (by decide +kernel) rfl
theorem kl_L_134 : Cond.methodLink RL 134 yX4_as ∈ jGW := jq 654 (by decide +kernel) rfl
theorem kl_X4_199 : Cond.methodLink RX4 199 yX1_isOf ∈ jGW := jq 658 (by decide +kernel) rfl
theorem kl_X1_11 : Cond.methodLinkNest RX1 11 yX4_isKind "JudgedDeposits" ∈ lw_tbl := List.mem_of_getElem? (i := 661) (by decide +kernel)
theorem kl_L_138 : Cond.methodLink RL 138 yX4_sheet ∈ jGW := jq 664 (by decide +kernel) rfl
theorem kl_X4_208 : Cond.methodLink RX4 208 yX2_begin ∈ jGW := jq 668 (by decide +kernel) rfl
theorem kl_X2_22 : Cond.methodLink RX2 22 yJ7_fill_53178 ∈ jGW := jq 672 (by decide +kernel) rfl
theorem kl_L_142 : Cond.methodLink RL 142 yX4_write ∈ jGW := jq 673 (by decide +kernel) rfl
theorem kl_X4_218 : Cond.methodLink RX4 218 yX2_put ∈ jGW := jq 677 (by decide +kernel) rfl
theorem kl_L_146 : Cond.methodLink RL 146 yX4_copy ∈ jGW := jq 681 (by decide +kernel) rfl
theorem kl_X4_223 : Cond.methodLink RX4 223 yX2_hasRow ∈ jGW := jq 685 (by decide +kernel) rfl
theorem kl_X2_28 : Cond.methodLinkNest RX2 28 yX4_within "JudgedDeposits" ∈ lw_tbl := List.mem_of_getElem? (i := 689) (by decide +kernel)
theorem kl_L_151 : Cond.methodLink RL 151 yX4_load ∈ jGW := jq 691 (by decide +kernel) rfl
theorem kl_L_155 : Cond.methodLink RL 155 yX4_judge ∈ jGW := jq 695 (by decide +kernel) rfl
theorem kl_L_159 : Cond.methodLink RL 159 yX4_image ∈ jGW := jq 699 (by decide +kernel) rfl
theorem kl_L_163 : Cond.methodLink RL 163 yX4_undo ∈ jGW := jq 703 (by decide +kernel) rfl
theorem kl_L_167 : Cond.methodLink RL 167 yX4_tear ∈ jGW := jq 707 (by decide +kernel) rfl
theorem kl_L_171 : Cond.methodLink RL 171 yX4_count ∈ jGW := jq 711 (by decide +kernel) rfl
theorem kl_X4_240 : Cond.methodLink RX4 240 yX0_heldSpots ∈ jGW := jq 715 (by decide +kernel) rfl
theorem kl_L_175 : Cond.methodLink RL 175 yX4_status ∈ jGW := jq 719 (by decide +kernel) rfl
theorem kl_L_12 : Cond.methodLink RL 12 yX5_init ∈ jGW := jq 725 (by decide +kernel) rfl
theorem kl_L_17 : Cond.methodLink RL 17 yX5_set ∈ jGW := jq 775 (by decide +kernel) rfl
theorem kl_X5_40 : Cond.methodLink RX5 40 yX5_in ∈ jGW := jq 779 (by decide +kernel) rfl
theorem kl_X5_71 : Cond.methodLink RX5 71 yX5_mostOfHome ∈ jGW := jq 782 (by decide +kernel) rfl
theorem kl_X5_74 : Cond.methodLink RX5 74 yX5_becomes ∈ jGW := jq 785 (by decide +kernel) rfl
theorem kc_X5_34 : Cond.constant RX5 34 (-1000001) ∈ jGW := jq 789 (by decide +kernel) rfl
theorem kl_X5_36 : Cond.methodLink RX5 36 yX5_finds ∈ jGW := jq 790 (by decide +kernel) rfl
theorem kl_L_22 : Cond.methodLink RL 22 yX5_home ∈ jGW := jq 794 (by decide +kernel) rfl
theorem kl_L_27 : Cond.methodLink RL 27 yX5_blow ∈ jGW := jq 798 (by decide +kernel) rfl
theorem kl_X5_77 : Cond.methodLink RX5 77 yX5_isPlace ∈ jGW := jq 802 (by decide +kernel) rfl
theorem kl_L_31 : Cond.methodLink RL 31 yX5_listed ∈ jGW := jq 805 (by decide +kernel) rfl
theorem kl_L_35 : Cond.methodLink RL 35 yX5_thing ∈ jGW := jq 809 (by decide +kernel) rfl
theorem kc_X5_85 : Cond.constant RX5 85 (-1000002) ∈ jGW := jq 813 (by decide +kernel) rfl
theorem kl_X5_86 : Cond.methodLink RX5 86 yX5_comes ∈ jGW := jq 814 (by decide +kernel) rfl
theorem kl_X5_81 : Cond.methodLink RX5 81 yX5_put ∈ jGW := jq 818 (by decide +kernel) rfl
theorem kl_L_39 : Cond.methodLink RL 39 yX5_of ∈ jGW := jq 822 (by decide +kernel) rfl
theorem kl_X5_89 : Cond.methodLink RX5 89 yX5_isThing ∈ jGW := jq 826 (by decide +kernel) rfl
theorem kl_X5_48 : Cond.methodLink RX5 48 yX5_lives ∈ jGW := jq 830 (by decide +kernel) rfl
theorem kl_X5_44 : Cond.methodLink RX5 44 yX5_it ∈ jGW := jq 834 (by decide +kernel) rfl
theorem kl_X5_58 : Cond.methodLink RX5 58 yX5_worth ∈ jGW := jq 838 (by decide +kernel) rfl
theorem kl_X5_51 : Cond.methodLink RX5 51 yX5_held ∈ jGW := jq 842 (by decide +kernel) rfl
theorem kl_X5_55 : Cond.methodLink RX5 55 yX5_fair ∈ jGW := jq 845 (by decide +kernel) rfl
theorem kl_X5_61 : Cond.methodLink RX5 61 yX5_worse ∈ jGW := jq 849 (by decide +kernel) rfl
theorem kl_X5_64 : Cond.methodLink RX5 64 yX5_award ∈ jGW := jq 853 (by decide +kernel) rfl
theorem kl_L_43 : Cond.methodLink RL 43 yX5_change ∈ jGW := jq 857 (by decide +kernel) rfl
theorem kl_X5_92 : Cond.methodLink RX5 92 yX5_mostOf ∈ jGW := jq 861 (by decide +kernel) rfl
theorem kl_L_47 : Cond.methodLink RL 47 yX5_hurts ∈ jGW := jq 864 (by decide +kernel) rfl
theorem kl_X5_95 : Cond.methodLink RX5 95 yX5_hurtsBy ∈ jGW := jq 868 (by decide +kernel) rfl
theorem kl_L_51 : Cond.methodLink RL 51 yX5_go ∈ jGW := jq 872 (by decide +kernel) rfl
theorem kc_X5_98 : Cond.constant RX5 98 (99999) ∈ jGW := jq 876 (by decide +kernel) rfl
theorem kc_X5_102 : Cond.constant RX5 102 (-1000005) ∈ jGW := jq 877 (by decide +kernel) rfl
theorem kl_X5_103 : Cond.methodLink RX5 103 yX5_goesFor ∈ jGW := jq 878 (by decide +kernel) rfl
theorem kl_X5_99 : Cond.methodLink RX5 99 yX5_goes ∈ jGW := jq 882 (by decide +kernel) rfl
theorem kl_X5_107 : Cond.methodLink RX5 107 yX5_awarded ∈ jGW := jq 886 (by decide +kernel) rfl
theorem kl_X5_67 : Cond.methodLink RX5 67 yX5_doMeet ∈ jGW := jq 890 (by decide +kernel) rfl
theorem kl_L_55 : Cond.methodLink RL 55 yX5_now ∈ jGW := jq 894 (by decide +kernel) rfl
theorem kl_X5_111 : Cond.methodLink RX5 111 yX5_claims ∈ jGW := jq 898 (by decide +kernel) rfl
theorem kl_X5_114 : Cond.methodLink RX5 114 yX5_worseOnes ∈ jGW := jq 902 (by decide +kernel) rfl
theorem kl_X5_117 : Cond.methodLink RX5 117 yX5_awardedOnes ∈ jGW := jq 906 (by decide +kernel) rfl
theorem kl_X5_120 : Cond.methodLink RX5 120 yX5_allWorth ∈ jGW := jq 910 (by decide +kernel) rfl
theorem kl_L_59 : Cond.methodLink RL 59 yX5_ahead ∈ jGW := jq 914 (by decide +kernel) rfl
theorem kl_X5_127 : Cond.methodLink RX5 127 yX5_thinks ∈ jGW := jq 918 (by decide +kernel) rfl
theorem kl_X5_123 : Cond.methodLink RX5 123 yX5_copyAll ∈ jGW := jq 922 (by decide +kernel) rfl
theorem kl_X5_130 : Cond.methodLink RX5 130 yX5_of ∈ jGW := jq 925 (by decide +kernel) rfl
theorem kl_X5_133 : Cond.methodLink RX5 133 yX5_putsBack ∈ jGW := jq 926 (by decide +kernel) rfl
theorem kl_L_63 : Cond.methodLink RL 63 yX5_judged ∈ jGW := jq 930 (by decide +kernel) rfl
theorem kl_X5_136 : Cond.methodLink RX5 136 yX5_awardedOn ∈ jGW := jq 934 (by decide +kernel) rfl
theorem kl_L_67 : Cond.methodLink RL 67 yX5_worthless ∈ jGW := jq 938 (by decide +kernel) rfl
theorem kc_X5_35 : Cond.constant RX5 35 (-1000004) ∈ jGW := jq 942 (by decide +kernel) rfl
theorem kl_L_71 : Cond.methodLink RL 71 yX5_owing ∈ jGW := jq 943 (by decide +kernel) rfl
theorem kl_L_76 : Cond.methodLink RL 76 yX5_forgiven ∈ jGW := jq 947 (by decide +kernel) rfl
theorem kl_L_80 : Cond.methodLink RL 80 yX5_claimFor ∈ jGW := jq 951 (by decide +kernel) rfl
theorem kl_L_84 : Cond.methodLink RL 84 yX5_peopleFor ∈ jGW := jq 955 (by decide +kernel) rfl
theorem kl_X5_139 : Cond.methodLink RX5 139 yX5_leastBy ∈ jGW := jq 959 (by decide +kernel) rfl
theorem kl_L_88 : Cond.methodLink RL 88 yX5_kindFor ∈ jGW := jq 963 (by decide +kernel) rfl
theorem kl_L_92 : Cond.methodLink RL 92 yX5_forceFor ∈ jGW := jq 967 (by decide +kernel) rfl
theorem kl_X5_143 : Cond.methodLink RX5 143 yX5_orNone ∈ jGW := jq 971 (by decide +kernel) rfl
theorem kl_L_96 : Cond.methodLink RL 96 yX5_giveUp ∈ jGW := jq 975 (by decide +kernel) rfl
theorem kl_X5_146 : Cond.methodLink RX5 146 yX5_bits ∈ jGW := jq 979 (by decide +kernel) rfl
theorem kl_X5_149 : Cond.methodLink RX5 149 yX5_isLeft ∈ jGW := jq 982 (by decide +kernel) rfl
theorem kl_L_100 : Cond.methodLink RL 100 yX5_fits ∈ jGW := jq 986 (by decide +kernel) rfl
theorem kl_X5_159 : Cond.methodLink RX5 159 yX5_notAsked ∈ jGW := jq 990 (by decide +kernel) rfl
theorem kl_X5_156 : Cond.methodLink RX5 156 yX5_notThere ∈ jGW := jq 994 (by decide +kernel) rfl
theorem kl_X5_152 : Cond.methodLink RX5 152 yX5_isSheet ∈ jGW := jq 998 (by decide +kernel) rfl
theorem kc_X5_155 : Cond.constant RX5 155 (-1000006) ∈ jGW := jq 1001 (by decide +kernel) rfl
theorem kl_X5_162 : Cond.methodLink RX5 162 yX5_isTold ∈ jGW := jq 1002 (by decide +kernel) rfl
theorem kl_L_104 : Cond.methodLink RL 104 yX5_kinds ∈ jGW := jq 1006 (by decide +kernel) rfl
theorem kl_L_108 : Cond.methodLink RL 108 yX5_month ∈ jGW := jq 1010 (by decide +kernel) rfl
theorem kl_X5_167 : Cond.methodLink RX5 167 yX5_draw ∈ jGW := jq 1014 (by decide +kernel) rfl
theorem kc_X5_166 : Cond.constant RX5 166 (1103515245) ∈ jGW := jq 1018 (by decide +kernel) rfl
theorem kl_L_113 : Cond.methodLink RL 113 yX5_odds ∈ jGW := jq 1019 (by decide +kernel) rfl
theorem kl_L_117 : Cond.methodLink RL 117 yX5_seed ∈ jGW := jq 1023 (by decide +kernel) rfl
theorem kl_L_121 : Cond.methodLink RL 121 yX5_feed ∈ jGW := jq 1027 (by decide +kernel) rfl
theorem kl_L_125 : Cond.methodLink RL 125 yX5_wipe ∈ jGW := jq 1031 (by decide +kernel) rfl
theorem kl_L_129 : Cond.methodLink RL 129 yX5_text ∈ jGW := jq 1035 (by decide +kernel) rfl
theorem kl_X5_202 : Cond.methodLink RX5 202 yX5_reads ∈ jGW := jq 1039 (by decide +kernel) rfl
theorem kl_X5_186 : Cond.methodLink RX5 186 yX5_isByte ∈ jGW := jq 1043 (by decide +kernel) rfl
theorem kl_X5_195 : Cond.methodLink RX5 195 yX5_wordHere ∈ jGW := jq 1047 (by decide +kernel) rfl
theorem kl_X5_183 : Cond.methodLink RX5 183 yX5_isName ∈ jGW := jq 1051 (by decide +kernel) rfl
theorem kl_X5_224 : Cond.methodLink RX5 224 yX5_item ∈ jGW := jq 1057 (by decide +kernel) rfl
theorem kl_X5_214 : Cond.methodLink RX5 214 yX5_thingItem ∈ jGW := jq 1061 (by decide +kernel) rfl
theorem kl_X5_208 : Cond.methodLink RX5 208 yX5_number ∈ jGW := jq 1065 (by decide +kernel) rfl
theorem kl_X5_211 : Cond.methodLink RX5 211 yX5_perhaps ∈ jGW := jq 1069 (by decide +kernel) rfl
theorem kl_X5_205 : Cond.methodLink RX5 205 yX5_takes ∈ jGW := jq 1073 (by decide +kernel) rfl
theorem kl_X5_217 : Cond.methodLink RX5 217 yX5_twoItem ∈ jGW := jq 1077 (by decide +kernel) rfl
theorem kl_X5_221 : Cond.methodLink RX5 221 yX5_blowItem ∈ jGW := jq 1081 (by decide +kernel) rfl
theorem kl_L_133 : Cond.methodLink RL 133 yX5_hold ∈ jGW := jq 1085 (by decide +kernel) rfl
theorem kl_L_137 : Cond.methodLink RL 137 yX5_as ∈ jGW := jq 1089 (by decide +kernel) rfl
theorem kl_X5_227 : Cond.methodLink RX5 227 yX5_isUnder ∈ jGW := jq 1093 (by decide +kernel) rfl
theorem kc_X5_230 : Cond.constant RX5 230 (-1000003) ∈ jGW := jq 1096 (by decide +kernel) rfl
theorem kl_L_141 : Cond.methodLink RL 141 yX5_sheet ∈ jGW := jq 1097 (by decide +kernel) rfl
theorem kc_X5_231 : Cond.constant RX5 231 (-1000007) ∈ jGW := jq 1101 (by decide +kernel) rfl
theorem kl_L_145 : Cond.methodLink RL 145 yX5_write ∈ jGW := jq 1102 (by decide +kernel) rfl
theorem kl_L_150 : Cond.methodLink RL 150 yX5_copy ∈ jGW := jq 1106 (by decide +kernel) rfl
theorem kl_X5_232 : Cond.methodLink RX5 232 yX5_notCopied ∈ jGW := jq 1110 (by decide +kernel) rfl
theorem kl_L_154 : Cond.methodLink RL 154 yX5_load ∈ jGW := jq 1114 (by decide +kernel) rfl
theorem kl_L_158 : Cond.methodLink RL 158 yX5_judge ∈ jGW := jq 1118 (by decide +kernel) rfl
theorem kl_L_162 : Cond.methodLink RL 162 yX5_image ∈ jGW := jq 1122 (by decide +kernel) rfl
theorem kl_L_166 : Cond.methodLink RL 166 yX5_undo ∈ jGW := jq 1126 (by decide +kernel) rfl
theorem kl_L_170 : Cond.methodLink RL 170 yX5_tear ∈ jGW := jq 1130 (by decide +kernel) rfl
theorem kl_L_174 : Cond.methodLink RL 174 yX5_count ∈ jGW := jq 1134 (by decide +kernel) rfl
theorem kl_X5_239 : Cond.methodLink RX5 239 yX5_manyHeld ∈ jGW := jq 1138 (by decide +kernel) rfl
theorem kl_L_178 : Cond.methodLink RL 178 yX5_status ∈ jGW := jq 1142 (by decide +kernel) rfl
end
section
def jHF : List Int32 := [1000, 2, 1, 1, 0, 0, 0]
def jHL : List Int32 := [0, 1, 0, 0, 0, 0, 0]
def jHM : List Int32 := [9999, 9, 1, 1, 2, 9999, 9999]
def jTM : List Int32 := [6, 999, 9999, 99, 99, 9999, 999]
def jKA : List Int32 := [-1, 0, 0, 2, 3, 0, 1]
/-- a copy of n numbers from sp on to dp on, between rows of n0 and n1 -/
def jcpok (sp dp n : Int32) (n0 n1 : Nat) : Prop := ¬ sp < 0 ∧ ¬ dp < 0 ∧ ¬ n < 0 ∧ sp.toNatClampNeg + n.toNatClampNeg ≤ n0 ∧ dp.toNatClampNeg + n.toNatClampNeg ≤ n1
theorem jlt4 {s : Int32} (h : vp_in s 4) : s.toNatClampNeg < 4 := by
  unfold vp_in at h
  omega
-- the sheets in the world of the class, by their number
theorem wJ_sh (_D : va_G) (K : JK) (a : Nat → Nat) (J : JS) {j : Nat} (hj : j < 4) : (wJ K a J)[19 + 2 * j]? = some (a (19 + 2 * j), .inr (1, [.ref (a (20 + 2 * j)), .int (s_bits (j_s J j)), .int (s_size (j_s J j))])) := by
  match j, hj with
  | 0, _ => rfl
  | 1, _ => rfl
  | 2, _ => rfl
  | 3, _ => rfl
theorem wJ_sn (_D : va_G) (K : JK) (a : Nat → Nat) (J : JS) {j : Nat} (hj : j < 4) : (wJ K a J)[20 + 2 * j]? = some (a (20 + 2 * j), .inl (K.1, 40, .inl (s_numbers (j_s J j)))) := by
  match j, hj with
  | 0, _ => rfl
  | 1, _ => rfl
  | 2, _ => rfl
  | 3, _ => rfl
theorem wJ_sC (_D : va_G) (K : JK) (a : Nat → Nat) (J : JS) {j : Nat} (hj : j < 4) : [19 + 2 * j, 20 + 2 * j].map (fun i => (wJ K a J)[i]?) = (wS K (fun k => a (19 + 2 * j + k)) (j_s J j)).map some := by
  match j, hj with
  | 0, _ => rfl
  | 1, _ => rfl
  | 2, _ => rfl
  | 3, _ => rfl
theorem wJ_sP (_D : va_G) (K : JK) (a : Nat → Nat) (J : JS) (S : SS) {j : Nat} (hj : j < 4) : jput (wJ K a J) [19 + 2 * j, 20 + 2 * j] (wS K (fun k => a (19 + 2 * j + k)) S) = wJ K a (j_s_s J j S) := by
  match j, hj with
  | 0, _ => rfl
  | 1, _ => rfl
  | 2, _ => rfl
  | 3, _ => rfl
theorem wJ_sN (_D : va_G) (K : JK) (a : Nat → Nat) (J : JS) (f : FA) {j : Nat} (hj : j < 4) : (wJ K a J).set (20 + 2 * j) (a (20 + 2 * j), .inl (K.1, 40, .inl f)) = wJ K a (j_s_s J j (s_s_numbers (j_s J j) f)) := by
  match j, hj with
  | 0, _ => rfl
  | 1, _ => rfl
  | 2, _ => rfl
  | 3, _ => rfl
theorem jnd2 (j : Nat) : va_nd [19 + 2 * j, 20 + 2 * j] = true := by
  have h : ¬ (19 + 2 * j = 20 + 2 * j) := by omega
  simp [va_nd, h]
theorem j_aald {p : Program} {l : Launch} {e : Env} {R : Room} {s : State} {m : MethodId} {args : Array Value} {below : List Frame} {meth : Method} {c : Code} {H : Heap} {locs : List Loc} {cells slots : Nat} {Q : State → Prop} {cc : ByteArray} {pc : Nat} {ls : Array Slot} {rest : List Value} {D : va_G} {K : JK} {a : Nat → Nat} {J : JS} (hx : p.tables.exec = Jvm.exec) (hb : c.code = cc) (hK : va_K D vwCl (jT K) s) (hP : va_P D vwCl (wJ K a J) H) {i : Int32} (hin : vp_in i 4) (hdg : decode cc pc = .ok (.aaload, 1))
    (kk : W p l e R s m args below meth c H locs cells slots Q (F0 m (pc + 1) ls (.ref (a (19 + 2 * i.toNatClampNeg)) :: rest))) : W p l e R s m args below meth c H locs cells slots Q (F0 m pc ls (.int i :: .ref (a 18) :: rest)) := va_aldq hx hb hK hP 18 2 rfl rfl hin hdg kk
theorem kac_X0 : Cond.methodLink RX0 48 arraycopyName ∈ jGW := jq 400 (by decide +kernel) rfl
theorem kac_X4 : Cond.methodLink RX4 229 arraycopyName ∈ jGW := jq 690 (by decide +kernel) rfl
theorem kac_nat : Cond.native arraycopyName ∈ jGW := jq 402 (by decide +kernel) rfl
theorem kac_stat : Cond.static arraycopyName ∈ jGW := jq 401 (by decide +kernel) rfl
theorem kac_ini : Cond.initialized "java/lang/System" ∈ jGW := jq 70 (by decide +kernel) rfl
theorem ks_J0_9 : Cond.fieldLink RJ0 9 "java/lang/String" "value" "[B" ∈ jGW := jq 1146 (by decide +kernel) rfl
theorem ks_J0_15 : Cond.fieldLink RJ0 15 "java/lang/String" "coder" "B" ∈ jGW := jq 1147 (by decide +kernel) rfl
theorem ks_J0_38 : Cond.fieldLink RJ0 38 "java/lang/String" "COMPACT_STRINGS" "Z" ∈ jGW := jq 569 (by decide +kernel) rfl
theorem ks_J0_1053 : Cond.fieldLink RJ0 1053 "jdk/internal/util/Preconditions" "SIOOBE_FORMATTER" "Ljava/util/function/BiFunction;" ∈ jGW := jq 585 (by decide +kernel) rfl
end
section
theorem dJ6_bitCount_0f7a4_0 : decode cJ6_bitCount_0f7a4 0 = .ok (.iload_n 0, 1) := by decide +kernel
theorem dJ6_bitCount_0f7a4_1 : decode cJ6_bitCount_0f7a4 1 = .ok (.iload_n 0, 1) := by decide +kernel
theorem dJ6_bitCount_0f7a4_2 : decode cJ6_bitCount_0f7a4 2 = .ok (.iconst 1, 1) := by decide +kernel
theorem dJ6_bitCount_0f7a4_3 : decode cJ6_bitCount_0f7a4 3 = .ok (.iushr, 1) := by decide +kernel
theorem dJ6_bitCount_0f7a4_4 : decode cJ6_bitCount_0f7a4 4 = .ok (.ldc_w 265, 3) := by decide +kernel
theorem dJ6_bitCount_0f7a4_7 : decode cJ6_bitCount_0f7a4 7 = .ok (.iand, 1) := by decide +kernel
theorem dJ6_bitCount_0f7a4_8 : decode cJ6_bitCount_0f7a4 8 = .ok (.isub, 1) := by decide +kernel
theorem dJ6_bitCount_0f7a4_9 : decode cJ6_bitCount_0f7a4 9 = .ok (.istore_n 0, 1) := by decide +kernel
theorem dJ6_bitCount_0f7a4_10 : decode cJ6_bitCount_0f7a4 10 = .ok (.iload_n 0, 1) := by decide +kernel
theorem dJ6_bitCount_0f7a4_11 : decode cJ6_bitCount_0f7a4 11 = .ok (.ldc_w 266, 3) := by decide +kernel
theorem dJ6_bitCount_0f7a4_14 : decode cJ6_bitCount_0f7a4 14 = .ok (.iand, 1) := by decide +kernel
theorem dJ6_bitCount_0f7a4_15 : decode cJ6_bitCount_0f7a4 15 = .ok (.iload_n 0, 1) := by decide +kernel
theorem dJ6_bitCount_0f7a4_16 : decode cJ6_bitCount_0f7a4 16 = .ok (.iconst 2, 1) := by decide +kernel
theorem dJ6_bitCount_0f7a4_17 : decode cJ6_bitCount_0f7a4 17 = .ok (.iushr, 1) := by decide +kernel
theorem dJ6_bitCount_0f7a4_18 : decode cJ6_bitCount_0f7a4 18 = .ok (.ldc_w 266, 3) := by decide +kernel
theorem dJ6_bitCount_0f7a4_21 : decode cJ6_bitCount_0f7a4 21 = .ok (.iand, 1) := by decide +kernel
theorem dJ6_bitCount_0f7a4_22 : decode cJ6_bitCount_0f7a4 22 = .ok (.iadd, 1) := by decide +kernel
theorem dJ6_bitCount_0f7a4_23 : decode cJ6_bitCount_0f7a4 23 = .ok (.istore_n 0, 1) := by decide +kernel
theorem dJ6_bitCount_0f7a4_24 : decode cJ6_bitCount_0f7a4 24 = .ok (.iload_n 0, 1) := by decide +kernel
theorem dJ6_bitCount_0f7a4_25 : decode cJ6_bitCount_0f7a4 25 = .ok (.iload_n 0, 1) := by decide +kernel
theorem dJ6_bitCount_0f7a4_26 : decode cJ6_bitCount_0f7a4 26 = .ok (.iconst 4, 1) := by decide +kernel
theorem dJ6_bitCount_0f7a4_27 : decode cJ6_bitCount_0f7a4 27 = .ok (.iushr, 1) := by decide +kernel
theorem dJ6_bitCount_0f7a4_28 : decode cJ6_bitCount_0f7a4 28 = .ok (.iadd, 1) := by decide +kernel
theorem dJ6_bitCount_0f7a4_29 : decode cJ6_bitCount_0f7a4 29 = .ok (.ldc_w 267, 3) := by decide +kernel
theorem dJ6_bitCount_0f7a4_32 : decode cJ6_bitCount_0f7a4 32 = .ok (.iand, 1) := by decide +kernel
theorem dJ6_bitCount_0f7a4_33 : decode cJ6_bitCount_0f7a4 33 = .ok (.istore_n 0, 1) := by decide +kernel
theorem dJ6_bitCount_0f7a4_34 : decode cJ6_bitCount_0f7a4 34 = .ok (.iload_n 0, 1) := by decide +kernel
theorem dJ6_bitCount_0f7a4_35 : decode cJ6_bitCount_0f7a4 35 = .ok (.iload_n 0, 1) := by decide +kernel
theorem dJ6_bitCount_0f7a4_36 : decode cJ6_bitCount_0f7a4 36 = .ok (.bipush 8, 2) := by decide +kernel
theorem dJ6_bitCount_0f7a4_38 : decode cJ6_bitCount_0f7a4 38 = .ok (.iushr, 1) := by decide +kernel
theorem dJ6_bitCount_0f7a4_39 : decode cJ6_bitCount_0f7a4 39 = .ok (.iadd, 1) := by decide +kernel
theorem dJ6_bitCount_0f7a4_40 : decode cJ6_bitCount_0f7a4 40 = .ok (.istore_n 0, 1) := by decide +kernel
theorem dJ6_bitCount_0f7a4_41 : decode cJ6_bitCount_0f7a4 41 = .ok (.iload_n 0, 1) := by decide +kernel
theorem dJ6_bitCount_0f7a4_42 : decode cJ6_bitCount_0f7a4 42 = .ok (.iload_n 0, 1) := by decide +kernel
theorem dJ6_bitCount_0f7a4_43 : decode cJ6_bitCount_0f7a4 43 = .ok (.bipush 16, 2) := by decide +kernel
theorem dJ6_bitCount_0f7a4_45 : decode cJ6_bitCount_0f7a4 45 = .ok (.iushr, 1) := by decide +kernel
theorem dJ6_bitCount_0f7a4_46 : decode cJ6_bitCount_0f7a4 46 = .ok (.iadd, 1) := by decide +kernel
theorem dJ6_bitCount_0f7a4_47 : decode cJ6_bitCount_0f7a4 47 = .ok (.istore_n 0, 1) := by decide +kernel
theorem dJ6_bitCount_0f7a4_48 : decode cJ6_bitCount_0f7a4 48 = .ok (.iload_n 0, 1) := by decide +kernel
theorem dJ6_bitCount_0f7a4_49 : decode cJ6_bitCount_0f7a4 49 = .ok (.bipush 63, 2) := by decide +kernel
theorem dJ6_bitCount_0f7a4_51 : decode cJ6_bitCount_0f7a4 51 = .ok (.iand, 1) := by decide +kernel
theorem dJ6_bitCount_0f7a4_52 : decode cJ6_bitCount_0f7a4 52 = .ok (.ireturn, 1) := by decide +kernel
def rJ6_bitCount_0f7a4 : Room := { frames := 0, cells := 0, slots := 0, locals := 0 }
def vJ6_bitCount_0f7a4 (p0 : Int32) : Int32 := ((((((((p0 - ((jushr p0 (1 : Int32)) &&& (1431655765 : Int32))) &&& (858993459 : Int32)) + ((jushr (p0 - ((jushr p0 (1 : Int32)) &&& (1431655765 : Int32))) (2 : Int32)) &&& (858993459 : Int32))) + (jushr (((p0 - ((jushr p0 (1 : Int32)) &&& (1431655765 : Int32))) &&& (858993459 : Int32)) + ((jushr (p0 - ((jushr p0 (1 : Int32)) &&& (1431655765 : Int32))) (2 : Int32)) &&& (858993459 : Int32))) (4 : Int32))) &&& (252645135 : Int32)) + (jushr (((((p0 - ((jushr p0 (1 : Int32)) &&& (1431655765 : Int32))) &&& (858993459 : Int32)) + ((jushr (p0 - ((jushr p0 (1 : Int32)) &&& (1431655765 : Int32))) (2 : Int32)) &&& (858993459 : Int32))) + (jushr (((p0 - ((jushr p0 (1 : Int32)) &&& (1431655765 : Int32))) &&& (858993459 : Int32)) + ((jushr (p0 - ((jushr p0 (1 : Int32)) &&& (1431655765 : Int32))) (2 : Int32)) &&& (858993459 : Int32))) (4 : Int32))) &&& (252645135 : Int32)) (8 : Int32))) + (jushr ((((((p0 - ((jushr p0 (1 : Int32)) &&& (1431655765 : Int32))) &&& (858993459 : Int32)) + ((jushr (p0 - ((jushr p0 (1 : Int32)) &&& (1431655765 : Int32))) (2 : Int32)) &&& (858993459 : Int32))) + (jushr (((p0 - ((jushr p0 (1 : Int32)) &&& (1431655765 : Int32))) &&& (858993459 : Int32)) + ((jushr (p0 - ((jushr p0 (1 : Int32)) &&& (1431655765 : Int32))) (2 : Int32)) &&& (858993459 : Int32))) (4 : Int32))) &&& (252645135 : Int32)) + (jushr (((((p0 - ((jushr p0 (1 : Int32)) &&& (1431655765 : Int32))) &&& (858993459 : Int32)) + ((jushr (p0 - ((jushr p0 (1 : Int32)) &&& (1431655765 : Int32))) (2 : Int32)) &&& (858993459 : Int32))) + (jushr (((p0 - ((jushr p0 (1 : Int32)) &&& (1431655765 : Int32))) &&& (858993459 : Int32)) + ((jushr (p0 - ((jushr p0 (1 : Int32)) &&& (1431655765 : Int32))) (2 : Int32)) &&& (858993459 : Int32))) (4 : Int32))) &&& (252645135 : Int32)) (8 : Int32))) (16 : Int32))) &&& (63 : Int32))
set_option maxHeartbeats 4000000 in
set_option maxRecDepth 100000 in
theorem hJ6_bitCount_0f7a4 (l : Launch) (D : va_G) (K : JK) (G : JG) (p0 : Int32) (sz : Nat) : Met l yJ6_bitCount_0f7a4 (.code yJ6_bitCount_0f7a4 cJ6_bitCount_0f7a4 1 (some .int) :: jGW) rJ6_bitCount_0f7a4 (jPre D (jT K) G [.int p0] ([] : va_W) sz) (jQi D (jT K) (vJ6_bitCount_0f7a4 p0) ([] : va_W) (va_A ([] : va_W) sz)) 0 0 (va_A ([] : va_W) sz) := by
  refine jEi (by decide) (Nat.le_of_ble_eq_true rfl) (fun p e s m below meth c A Q ls hat hP hD hS hl hend => ?_)
  obtain ⟨hx, hb, hml, hown, hts, hK, hZ, hA⟩ := hat
  have hl : lv_has ls 1 [(0, .int p0)] := hl
  have hV := vJ6_bitCount_0f7a4.eq_1 p0
  refine lv_iload_n hx hb dJ6_bitCount_0f7a4_0 rfl (lv_at hl 0 rfl) ?_
  refine lv_iload_n hx hb dJ6_bitCount_0f7a4_1 rfl (lv_at hl 0 rfl) ?_
  refine lv_iconst (v := (1 : Int32)) hx hb dJ6_bitCount_0f7a4_2 (by decide) ?_
  refine j_iushr hx hb dJ6_bitCount_0f7a4_3 ?_
  refine lv_ldcw (v := (1431655765 : Int32)) hx hb hown (hts _ kc_J6_265) dJ6_bitCount_0f7a4_4 ?_
  refine lv_iand hx hb dJ6_bitCount_0f7a4_7 ?_
  refine lv_isub hx hb dJ6_bitCount_0f7a4_8 ?_
  refine lv_istore_n (lv' := [(0, .int (p0 - ((jushr p0 (1 : Int32)) &&& (1431655765 : Int32))))]) hx hb dJ6_bitCount_0f7a4_9 rfl hl (by decide) rfl (fun ls hl => ?_)
  refine lv_iload_n hx hb dJ6_bitCount_0f7a4_10 rfl (lv_at hl 0 rfl) ?_
  refine lv_ldcw (v := (858993459 : Int32)) hx hb hown (hts _ kc_J6_266) dJ6_bitCount_0f7a4_11 ?_
  refine lv_iand hx hb dJ6_bitCount_0f7a4_14 ?_
  refine lv_iload_n hx hb dJ6_bitCount_0f7a4_15 rfl (lv_at hl 0 rfl) ?_
  refine lv_iconst (v := (2 : Int32)) hx hb dJ6_bitCount_0f7a4_16 (by decide) ?_
  refine j_iushr hx hb dJ6_bitCount_0f7a4_17 ?_
  refine lv_ldcw (v := (858993459 : Int32)) hx hb hown (hts _ kc_J6_266) dJ6_bitCount_0f7a4_18 ?_
  refine lv_iand hx hb dJ6_bitCount_0f7a4_21 ?_
  refine lv_iadd hx hb dJ6_bitCount_0f7a4_22 ?_
  refine lv_istore_n (lv' := [(0, .int (((p0 - ((jushr p0 (1 : Int32)) &&& (1431655765 : Int32))) &&& (858993459 : Int32)) + ((jushr (p0 - ((jushr p0 (1 : Int32)) &&& (1431655765 : Int32))) (2 : Int32)) &&& (858993459 : Int32))))]) hx hb dJ6_bitCount_0f7a4_23 rfl hl (by decide) rfl (fun ls hl => ?_)
  refine lv_iload_n hx hb dJ6_bitCount_0f7a4_24 rfl (lv_at hl 0 rfl) ?_
  refine lv_iload_n hx hb dJ6_bitCount_0f7a4_25 rfl (lv_at hl 0 rfl) ?_
  refine lv_iconst (v := (4 : Int32)) hx hb dJ6_bitCount_0f7a4_26 (by decide) ?_
  refine j_iushr hx hb dJ6_bitCount_0f7a4_27 ?_
  refine lv_iadd hx hb dJ6_bitCount_0f7a4_28 ?_
  refine lv_ldcw (v := (252645135 : Int32)) hx hb hown (hts _ kc_J6_267) dJ6_bitCount_0f7a4_29 ?_
  refine lv_iand hx hb dJ6_bitCount_0f7a4_32 ?_
  refine lv_istore_n (lv' := [(0, .int (((((p0 - ((jushr p0 (1 : Int32)) &&& (1431655765 : Int32))) &&& (858993459 : Int32)) + ((jushr (p0 - ((jushr p0 (1 : Int32)) &&& (1431655765 : Int32))) (2 : Int32)) &&& (858993459 : Int32))) + (jushr (((p0 - ((jushr p0 (1 : Int32)) &&& (1431655765 : Int32))) &&& (858993459 : Int32)) + ((jushr (p0 - ((jushr p0 (1 : Int32)) &&& (1431655765 : Int32))) (2 : Int32)) &&& (858993459 : Int32))) (4 : Int32))) &&& (252645135 : Int32)))]) hx hb dJ6_bitCount_0f7a4_33 rfl hl (by decide) rfl (fun ls hl => ?_)
  refine lv_iload_n hx hb dJ6_bitCount_0f7a4_34 rfl (lv_at hl 0 rfl) ?_
  refine lv_iload_n hx hb dJ6_bitCount_0f7a4_35 rfl (lv_at hl 0 rfl) ?_
  refine lv_bipush (v := (8 : Int32)) hx hb dJ6_bitCount_0f7a4_36 (by decide) ?_
  refine j_iushr hx hb dJ6_bitCount_0f7a4_38 ?_
  refine lv_iadd hx hb dJ6_bitCount_0f7a4_39 ?_
  refine lv_istore_n (lv' := [(0, .int ((((((p0 - ((jushr p0 (1 : Int32)) &&& (1431655765 : Int32))) &&& (858993459 : Int32)) + ((jushr (p0 - ((jushr p0 (1 : Int32)) &&& (1431655765 : Int32))) (2 : Int32)) &&& (858993459 : Int32))) + (jushr (((p0 - ((jushr p0 (1 : Int32)) &&& (1431655765 : Int32))) &&& (858993459 : Int32)) + ((jushr (p0 - ((jushr p0 (1 : Int32)) &&& (1431655765 : Int32))) (2 : Int32)) &&& (858993459 : Int32))) (4 : Int32))) &&& (252645135 : Int32)) + (jushr (((((p0 - ((jushr p0 (1 : Int32)) &&& (1431655765 : Int32))) &&& (858993459 : Int32)) + ((jushr (p0 - ((jushr p0 (1 : Int32)) &&& (1431655765 : Int32))) (2 : Int32)) &&& (858993459 : Int32))) + (jushr (((p0 - ((jushr p0 (1 : Int32)) &&& (1431655765 : Int32))) &&& (858993459 : Int32)) + ((jushr (p0 - ((jushr p0 (1 : Int32)) &&& (1431655765 : Int32))) (2 : Int32)) &&& (858993459 : Int32))) (4 : Int32))) &&& (252645135 : Int32)) (8 : Int32))))]) hx hb dJ6_bitCount_0f7a4_40 rfl hl (by decide) rfl (fun ls hl => ?_)
  refine lv_iload_n hx hb dJ6_bitCount_0f7a4_41 rfl (lv_at hl 0 rfl) ?_
  refine lv_iload_n hx hb dJ6_bitCount_0f7a4_42 rfl (lv_at hl 0 rfl) ?_
  refine lv_bipush (v := (16 : Int32)) hx hb dJ6_bitCount_0f7a4_43 (by decide) ?_
  refine j_iushr hx hb dJ6_bitCount_0f7a4_45 ?_
  refine lv_iadd hx hb dJ6_bitCount_0f7a4_46 ?_
  refine lv_istore_n (lv' := [(0, .int (((((((p0 - ((jushr p0 (1 : Int32)) &&& (1431655765 : Int32))) &&& (858993459 : Int32)) + ((jushr (p0 - ((jushr p0 (1 : Int32)) &&& (1431655765 : Int32))) (2 : Int32)) &&& (858993459 : Int32))) + (jushr (((p0 - ((jushr p0 (1 : Int32)) &&& (1431655765 : Int32))) &&& (858993459 : Int32)) + ((jushr (p0 - ((jushr p0 (1 : Int32)) &&& (1431655765 : Int32))) (2 : Int32)) &&& (858993459 : Int32))) (4 : Int32))) &&& (252645135 : Int32)) + (jushr (((((p0 - ((jushr p0 (1 : Int32)) &&& (1431655765 : Int32))) &&& (858993459 : Int32)) + ((jushr (p0 - ((jushr p0 (1 : Int32)) &&& (1431655765 : Int32))) (2 : Int32)) &&& (858993459 : Int32))) + (jushr (((p0 - ((jushr p0 (1 : Int32)) &&& (1431655765 : Int32))) &&& (858993459 : Int32)) + ((jushr (p0 - ((jushr p0 (1 : Int32)) &&& (1431655765 : Int32))) (2 : Int32)) &&& (858993459 : Int32))) (4 : Int32))) &&& (252645135 : Int32)) (8 : Int32))) + (jushr ((((((p0 - ((jushr p0 (1 : Int32)) &&& (1431655765 : Int32))) &&& (858993459 : Int32)) + ((jushr (p0 - ((jushr p0 (1 : Int32)) &&& (1431655765 : Int32))) (2 : Int32)) &&& (858993459 : Int32))) + (jushr (((p0 - ((jushr p0 (1 : Int32)) &&& (1431655765 : Int32))) &&& (858993459 : Int32)) + ((jushr (p0 - ((jushr p0 (1 : Int32)) &&& (1431655765 : Int32))) (2 : Int32)) &&& (858993459 : Int32))) (4 : Int32))) &&& (252645135 : Int32)) + (jushr (((((p0 - ((jushr p0 (1 : Int32)) &&& (1431655765 : Int32))) &&& (858993459 : Int32)) + ((jushr (p0 - ((jushr p0 (1 : Int32)) &&& (1431655765 : Int32))) (2 : Int32)) &&& (858993459 : Int32))) + (jushr (((p0 - ((jushr p0 (1 : Int32)) &&& (1431655765 : Int32))) &&& (858993459 : Int32)) + ((jushr (p0 - ((jushr p0 (1 : Int32)) &&& (1431655765 : Int32))) (2 : Int32)) &&& (858993459 : Int32))) (4 : Int32))) &&& (252645135 : Int32)) (8 : Int32))) (16 : Int32))))]) hx hb dJ6_bitCount_0f7a4_47 rfl hl (by decide) rfl (fun ls hl => ?_)
  refine lv_iload_n hx hb dJ6_bitCount_0f7a4_48 rfl (lv_at hl 0 rfl) ?_
  refine lv_bipush (v := (63 : Int32)) hx hb dJ6_bitCount_0f7a4_49 (by decide) ?_
  refine lv_iand hx hb dJ6_bitCount_0f7a4_51 ?_
  exact hend _ _ _ _ _ hP hD hS hV.symm rfl dJ6_bitCount_0f7a4_52
theorem dX1_lives_0 : decode cX1_lives 0 = .ok (.iload_n 0, 1) := by decide +kernel
theorem dX1_lives_1 : decode cX1_lives 1 = .ok (.tableswitch 65 1 6 #[39, 47, 51, 55, 61, 43], 39) := by decide +kernel
theorem dX1_lives_40 : decode cX1_lives 40 = .ok (.sipush 400, 3) := by decide +kernel
theorem dX1_lives_43 : decode cX1_lives 43 = .ok (.ireturn, 1) := by decide +kernel
theorem dX1_lives_44 : decode cX1_lives 44 = .ok (.sipush 200, 3) := by decide +kernel
theorem dX1_lives_47 : decode cX1_lives 47 = .ok (.ireturn, 1) := by decide +kernel
theorem dX1_lives_48 : decode cX1_lives 48 = .ok (.sipush 1000, 3) := by decide +kernel
theorem dX1_lives_51 : decode cX1_lives 51 = .ok (.ireturn, 1) := by decide +kernel
theorem dX1_lives_52 : decode cX1_lives 52 = .ok (.sipush 200, 3) := by decide +kernel
theorem dX1_lives_55 : decode cX1_lives 55 = .ok (.ireturn, 1) := by decide +kernel
theorem dX1_lives_56 : decode cX1_lives 56 = .ok (.sipush 200, 3) := by decide +kernel
theorem dX1_lives_59 : decode cX1_lives 59 = .ok (.iload_n 1, 1) := by decide +kernel
theorem dX1_lives_60 : decode cX1_lives 60 = .ok (.iadd, 1) := by decide +kernel
theorem dX1_lives_61 : decode cX1_lives 61 = .ok (.ireturn, 1) := by decide +kernel
theorem dX1_lives_62 : decode cX1_lives 62 = .ok (.sipush 300, 3) := by decide +kernel
theorem dX1_lives_65 : decode cX1_lives 65 = .ok (.ireturn, 1) := by decide +kernel
theorem dX1_lives_66 : decode cX1_lives 66 = .ok (.sipush 500, 3) := by decide +kernel
theorem dX1_lives_69 : decode cX1_lives 69 = .ok (.ireturn, 1) := by decide +kernel
def rX1_lives : Room := { frames := 0, cells := 0, slots := 0, locals := 0 }
def vX1_lives (p0 : Int32) (p1 : Int32) : Int32 := if (p0 = (1 : Int32)) then (400 : Int32) else if (p0 = (2 : Int32)) then (1000 : Int32) else if (p0 = (3 : Int32)) then (200 : Int32) else if (p0 = (4 : Int32)) then ((200 : Int32) + p1) else if (p0 = (5 : Int32)) then (300 : Int32) else if (p0 = (6 : Int32)) then (200 : Int32) else (500 : Int32)
set_option maxHeartbeats 4000000 in
set_option maxRecDepth 100000 in
theorem hX1_lives (l : Launch) (D : va_G) (K : JK) (G : JG) (p0 : Int32) (p1 : Int32) (sz : Nat) : Met l yX1_lives (.code yX1_lives cX1_lives 2 (some .int) :: jGW) rX1_lives (jPre D (jT K) G [.int p0, .int p1] ([] : va_W) sz) (jQi D (jT K) (vX1_lives p0 p1) ([] : va_W) (va_A ([] : va_W) sz)) 0 0 (va_A ([] : va_W) sz) := by
  refine jEi (by decide) (Nat.le_of_ble_eq_true rfl) (fun p e s m below meth c A Q ls hat hP hD hS hl hend => ?_)
  obtain ⟨hx, hb, hml, hown, hts, hK, hZ, hA⟩ := hat
  have hl : lv_has ls 2 [(0, .int p0), (1, .int p1)] := hl
  have hV := vX1_lives.eq_1 p0 p1
  refine lv_iload_n hx hb dX1_lives_0 rfl (lv_at hl 0 rfl) ?_
  by_cases c7 : (p0 = (1 : Int32))
  · have hV := hV.trans (if_pos c7)
    refine lv_tableIn (off := 39) (tgt := 40) hx hb dX1_lives_1 (by rw [c7]; decide) (by rw [c7]; decide) (by rw [c7]; rfl) (by decide) ?_
    refine lv_sipush (v := (400 : Int32)) hx hb dX1_lives_40 (by decide) ?_
    exact hend _ _ _ _ _ hP hD hS hV.symm rfl dX1_lives_43
  · have hV := hV.trans (if_neg c7)
    by_cases c8 : (p0 = (2 : Int32))
    · have hV := hV.trans (if_pos c8)
      refine lv_tableIn (off := 47) (tgt := 48) hx hb dX1_lives_1 (by rw [c8]; decide) (by rw [c8]; decide) (by rw [c8]; rfl) (by decide) ?_
      refine lv_sipush (v := (1000 : Int32)) hx hb dX1_lives_48 (by decide) ?_
      exact hend _ _ _ _ _ hP hD hS hV.symm rfl dX1_lives_51
    · have hV := hV.trans (if_neg c8)
      by_cases c9 : (p0 = (3 : Int32))
      · have hV := hV.trans (if_pos c9)
        refine lv_tableIn (off := 51) (tgt := 52) hx hb dX1_lives_1 (by rw [c9]; decide) (by rw [c9]; decide) (by rw [c9]; rfl) (by decide) ?_
        refine lv_sipush (v := (200 : Int32)) hx hb dX1_lives_52 (by decide) ?_
        exact hend _ _ _ _ _ hP hD hS hV.symm rfl dX1_lives_55
      · have hV := hV.trans (if_neg c9)
        by_cases c10 : (p0 = (4 : Int32))
        · have hV := hV.trans (if_pos c10)
          refine lv_tableIn (off := 55) (tgt := 56) hx hb dX1_lives_1 (by rw [c10]; decide) (by rw [c10]; decide) (by rw [c10]; rfl) (by decide) ?_
          refine lv_sipush (v := (200 : Int32)) hx hb dX1_lives_56 (by decide) ?_
          refine lv_iload_n hx hb dX1_lives_59 rfl (lv_at hl 1 rfl) ?_
          refine lv_iadd hx hb dX1_lives_60 ?_
          exact hend _ _ _ _ _ hP hD hS hV.symm rfl dX1_lives_61
        · have hV := hV.trans (if_neg c10)
          by_cases c11 : (p0 = (5 : Int32))
          · have hV := hV.trans (if_pos c11)
            refine lv_tableIn (off := 61) (tgt := 62) hx hb dX1_lives_1 (by rw [c11]; decide) (by rw [c11]; decide) (by rw [c11]; rfl) (by decide) ?_
            refine lv_sipush (v := (300 : Int32)) hx hb dX1_lives_62 (by decide) ?_
            exact hend _ _ _ _ _ hP hD hS hV.symm rfl dX1_lives_65
          · have hV := hV.trans (if_neg c11)
            by_cases c12 : (p0 = (6 : Int32))
            · have hV := hV.trans (if_pos c12)
              refine lv_tableIn (off := 43) (tgt := 44) hx hb dX1_lives_1 (by rw [c12]; decide) (by rw [c12]; decide) (by rw [c12]; rfl) (by decide) ?_
              refine lv_sipush (v := (200 : Int32)) hx hb dX1_lives_44 (by decide) ?_
              exact hend _ _ _ _ _ hP hD hS hV.symm rfl dX1_lives_47
            · have hV := hV.trans (if_neg c12)
              refine lv_tableOut (tgt := 66) hx hb dX1_lives_1 (by have n0 := jneL (z := 1) c7 (by decide); have n1 := jneL (z := 2) c8 (by decide); have n2 := jneL (z := 3) c9 (by decide); have n3 := jneL (z := 4) c10 (by decide); have n4 := jneL (z := 5) c11 (by decide); have n5 := jneL (z := 6) c12 (by decide); omega) (by decide) ?_
              refine lv_sipush (v := (500 : Int32)) hx hb dX1_lives_66 (by decide) ?_
              exact hend _ _ _ _ _ hP hD hS hV.symm rfl dX1_lives_69
theorem dX1_shareLeft_0 : decode cX1_shareLeft 0 = .ok (.iload_n 2, 1) := by decide +kernel
theorem dX1_shareLeft_1 : decode cX1_shareLeft 1 = .ok (.ifCond .le 17, 3) := by decide +kernel
theorem dX1_shareLeft_4 : decode cX1_shareLeft 4 = .ok (.iload_n 0, 1) := by decide +kernel
theorem dX1_shareLeft_5 : decode cX1_shareLeft 5 = .ok (.iconst 0, 1) := by decide +kernel
theorem dX1_shareLeft_6 : decode cX1_shareLeft 6 = .ok (.iload_n 2, 1) := by decide +kernel
theorem dX1_shareLeft_7 : decode cX1_shareLeft 7 = .ok (.iload_n 1, 1) := by decide +kernel
theorem dX1_shareLeft_8 : decode cX1_shareLeft 8 = .ok (.isub, 1) := by decide +kernel
theorem dX1_shareLeft_9 : decode cX1_shareLeft 9 = .ok (.invokestatic 27, 3) := by decide +kernel
theorem dX1_shareLeft_12 : decode cX1_shareLeft 12 = .ok (.imul, 1) := by decide +kernel
theorem dX1_shareLeft_13 : decode cX1_shareLeft 13 = .ok (.iload_n 2, 1) := by decide +kernel
theorem dX1_shareLeft_14 : decode cX1_shareLeft 14 = .ok (.idiv, 1) := by decide +kernel
theorem dX1_shareLeft_15 : decode cX1_shareLeft 15 = .ok (.goto 4, 3) := by decide +kernel
theorem dX1_shareLeft_18 : decode cX1_shareLeft 18 = .ok (.iconst 0, 1) := by decide +kernel
theorem dX1_shareLeft_19 : decode cX1_shareLeft 19 = .ok (.ireturn, 1) := by decide +kernel
def rX1_shareLeft : Room := { frames := 1, cells := 0, slots := 0, locals := 14 }
def vX1_shareLeft (p0 : Int32) (p1 : Int32) (p2 : Int32) : Int32 := if (p2 ≤ 0) then (0 : Int32) else ((p0 * (jmax (0 : Int32) (p2 - p1))) / p2)
def kX1_shareLeft (p0 : Int32) (p1 : Int32) (p2 : Int32) : Prop := ((p2 ≤ 0) → True) ∧ (¬ (p2 ≤ 0) → ((¬ p2 = 0) ∧ True))
set_option maxHeartbeats 4000000 in
set_option maxRecDepth 100000 in
theorem hX1_shareLeft (l : Launch) (D : va_G) (K : JK) (G : JG) (p0 : Int32) (p1 : Int32) (p2 : Int32) (hk : kX1_shareLeft p0 p1 p2) (sz : Nat) : Met l yX1_shareLeft (.code yX1_shareLeft cX1_shareLeft 3 (some .int) :: jGW) rX1_shareLeft (jPre D (jT K) G [.int p0, .int p1, .int p2] ([] : va_W) sz) (jQi D (jT K) (vX1_shareLeft p0 p1 p2) ([] : va_W) (va_A ([] : va_W) sz)) 0 0 (va_A ([] : va_W) sz) := by
  refine jEi (by decide) (Nat.le_of_ble_eq_true rfl) (fun p e s m below meth c A Q ls hat hP hD hS hl hend => ?_)
  obtain ⟨hx, hb, hml, hown, hts, hK, hZ, hA⟩ := hat
  have hl : lv_has ls 3 [(0, .int p0), (1, .int p1), (2, .int p2)] := hl
  have hV := vX1_shareLeft.eq_1 p0 p1 p2
  rw [kX1_shareLeft] at hk
  refine lv_iload_n hx hb dX1_shareLeft_0 rfl (lv_at hl 2 rfl) ?_
  refine lv_if_le (tgt := 18) hx hb dX1_shareLeft_1 (by decide) (fun c3 => ?_) (fun c3 => ?_)
  · have hV := hV.trans (if_pos c3)
    have hk := hk.1 c3
    refine lv_iconst (v := (0 : Int32)) hx hb dX1_shareLeft_18 (by decide) ?_
    exact hend _ _ _ _ _ hP hD hS hV.symm rfl dX1_shareLeft_19
  · have hV := hV.trans (if_neg c3)
    have hk := hk.2 c3
    refine lv_iload_n hx hb dX1_shareLeft_4 rfl (lv_at hl 0 rfl) ?_
    refine lv_iconst (v := (0 : Int32)) hx hb dX1_shareLeft_5 (by decide) ?_
    refine lv_iload_n hx hb dX1_shareLeft_6 rfl (lv_at hl 2 rfl) ?_
    refine lv_iload_n hx hb dX1_shareLeft_7 rfl (lv_at hl 1 rfl) ?_
    refine lv_isub hx hb dX1_shareLeft_8 ?_
    refine mmax_X1_27 hx hb (hml.trans hl.1.symm) hts hown (Nat.le_of_ble_eq_true rfl) (Nat.le_of_ble_eq_true rfl) (Nat.zero_le _) (Nat.zero_le _) dX1_shareLeft_9 ?_
    refine lv_imul hx hb dX1_shareLeft_12 ?_
    refine lv_iload_n hx hb dX1_shareLeft_13 rfl (lv_at hl 2 rfl) ?_
    obtain ⟨h4, hk⟩ := hk
    refine lv_idiv hx hb dX1_shareLeft_14 h4 ?_
    refine lv_goto (tgt := 19) hx hb dX1_shareLeft_15 (by decide) ?_
    exact hend _ _ _ _ _ hP hD hS hV.symm rfl dX1_shareLeft_19
theorem dX1_worth_0 : decode cX1_worth 0 = .ok (.iload_n 0, 1) := by decide +kernel
theorem dX1_worth_1 : decode cX1_worth 1 = .ok (.iload_n 1, 1) := by decide +kernel
theorem dX1_worth_2 : decode cX1_worth 2 = .ok (.invokestatic 19, 3) := by decide +kernel
theorem dX1_worth_5 : decode cX1_worth 5 = .ok (.istore_n 3, 1) := by decide +kernel
theorem dX1_worth_6 : decode cX1_worth 6 = .ok (.iload_n 0, 1) := by decide +kernel
theorem dX1_worth_7 : decode cX1_worth 7 = .ok (.tableswitch 76 1 6 #[37, 53, 55, 64, 76, 37], 37) := by decide +kernel
theorem dX1_worth_44 : decode cX1_worth 44 = .ok (.iload_n 1, 1) := by decide +kernel
theorem dX1_worth_45 : decode cX1_worth 45 = .ok (.bipush 20, 2) := by decide +kernel
theorem dX1_worth_47 : decode cX1_worth 47 = .ok (.iload_n 1, 1) := by decide +kernel
theorem dX1_worth_48 : decode cX1_worth 48 = .ok (.iload_n 2, 1) := by decide +kernel
theorem dX1_worth_49 : decode cX1_worth 49 = .ok (.iload_n 3, 1) := by decide +kernel
theorem dX1_worth_50 : decode cX1_worth 50 = .ok (.invokestatic 23, 3) := by decide +kernel
theorem dX1_worth_53 : decode cX1_worth 53 = .ok (.invokestatic 27, 3) := by decide +kernel
theorem dX1_worth_56 : decode cX1_worth 56 = .ok (.invokestatic 32, 3) := by decide +kernel
theorem dX1_worth_59 : decode cX1_worth 59 = .ok (.ireturn, 1) := by decide +kernel
theorem dX1_worth_60 : decode cX1_worth 60 = .ok (.iload_n 1, 1) := by decide +kernel
theorem dX1_worth_61 : decode cX1_worth 61 = .ok (.ireturn, 1) := by decide +kernel
theorem dX1_worth_62 : decode cX1_worth 62 = .ok (.iload_n 1, 1) := by decide +kernel
theorem dX1_worth_63 : decode cX1_worth 63 = .ok (.iconst 2, 1) := by decide +kernel
theorem dX1_worth_64 : decode cX1_worth 64 = .ok (.idiv, 1) := by decide +kernel
theorem dX1_worth_65 : decode cX1_worth 65 = .ok (.iload_n 2, 1) := by decide +kernel
theorem dX1_worth_66 : decode cX1_worth 66 = .ok (.iload_n 3, 1) := by decide +kernel
theorem dX1_worth_67 : decode cX1_worth 67 = .ok (.invokestatic 23, 3) := by decide +kernel
theorem dX1_worth_70 : decode cX1_worth 70 = .ok (.ireturn, 1) := by decide +kernel
theorem dX1_worth_71 : decode cX1_worth 71 = .ok (.iload_n 1, 1) := by decide +kernel
theorem dX1_worth_72 : decode cX1_worth 72 = .ok (.iconst 2, 1) := by decide +kernel
theorem dX1_worth_73 : decode cX1_worth 73 = .ok (.idiv, 1) := by decide +kernel
theorem dX1_worth_74 : decode cX1_worth 74 = .ok (.iload_n 2, 1) := by decide +kernel
theorem dX1_worth_75 : decode cX1_worth 75 = .ok (.iload_n 3, 1) := by decide +kernel
theorem dX1_worth_76 : decode cX1_worth 76 = .ok (.invokestatic 23, 3) := by decide +kernel
theorem dX1_worth_79 : decode cX1_worth 79 = .ok (.bipush 50, 2) := by decide +kernel
theorem dX1_worth_81 : decode cX1_worth 81 = .ok (.iadd, 1) := by decide +kernel
theorem dX1_worth_82 : decode cX1_worth 82 = .ok (.ireturn, 1) := by decide +kernel
theorem dX1_worth_83 : decode cX1_worth 83 = .ok (.iload_n 1, 1) := by decide +kernel
theorem dX1_worth_84 : decode cX1_worth 84 = .ok (.iload_n 2, 1) := by decide +kernel
theorem dX1_worth_85 : decode cX1_worth 85 = .ok (.iload_n 3, 1) := by decide +kernel
theorem dX1_worth_86 : decode cX1_worth 86 = .ok (.invokestatic 23, 3) := by decide +kernel
theorem dX1_worth_89 : decode cX1_worth 89 = .ok (.ireturn, 1) := by decide +kernel
def rX1_worth : Room := { frames := 2, cells := 0, slots := 0, locals := 36 }
def vX1_worth_c83 (p0 : Int32) (p1 : Int32) (p2 : Int32) (x3 : Int32) : Int32 := (vX1_shareLeft p1 p2 x3)
def kX1_worth_c83 (p0 : Int32) (p1 : Int32) (p2 : Int32) (x3 : Int32) : Prop := (kX1_shareLeft p1 p2 x3) ∧ True
def vX1_worth_c44 (p0 : Int32) (p1 : Int32) (p2 : Int32) (x3 : Int32) : Int32 := (jmin p1 (jmax (20 : Int32) (vX1_shareLeft p1 p2 x3)))
def kX1_worth_c44 (p0 : Int32) (p1 : Int32) (p2 : Int32) (x3 : Int32) : Prop := (kX1_shareLeft p1 p2 x3) ∧ True
def vX1_worth (p0 : Int32) (p1 : Int32) (p2 : Int32) : Int32 := if (p0 = (1 : Int32)) then (vX1_worth_c44 p0 p1 p2 (vX1_lives p0 p1)) else if (p0 = (2 : Int32)) then p1 else if (p0 = (3 : Int32)) then (vX1_shareLeft (p1 / (2 : Int32)) p2 (vX1_lives p0 p1)) else if (p0 = (4 : Int32)) then ((vX1_shareLeft (p1 / (2 : Int32)) p2 (vX1_lives p0 p1)) + (50 : Int32)) else if (p0 = (5 : Int32)) then (vX1_worth_c83 p0 p1 p2 (vX1_lives p0 p1)) else if (p0 = (6 : Int32)) then (vX1_worth_c44 p0 p1 p2 (vX1_lives p0 p1)) else (vX1_worth_c83 p0 p1 p2 (vX1_lives p0 p1))
def kX1_worth (p0 : Int32) (p1 : Int32) (p2 : Int32) : Prop := ((p0 = (1 : Int32)) → ((kX1_worth_c44 p0 p1 p2 (vX1_lives p0 p1)))) ∧ (¬ (p0 = (1 : Int32)) → (((p0 = (2 : Int32)) → True) ∧ (¬ (p0 = (2 : Int32)) → (((p0 = (3 : Int32)) → ((kX1_shareLeft (p1 / (2 : Int32)) p2 (vX1_lives p0 p1)) ∧ True)) ∧ (¬ (p0 = (3 : Int32)) → (((p0 = (4 : Int32)) → ((kX1_shareLeft (p1 / (2 : Int32)) p2 (vX1_lives p0 p1)) ∧ True)) ∧ (¬ (p0 = (4 : Int32)) → (((p0 = (5 : Int32)) → ((kX1_worth_c83 p0 p1 p2 (vX1_lives p0 p1)))) ∧ (¬ (p0 = (5 : Int32)) → (((p0 = (6 : Int32)) → ((kX1_worth_c44 p0 p1 p2 (vX1_lives p0 p1)))) ∧ (¬ (p0 = (6 : Int32)) → ((kX1_worth_c83 p0 p1 p2 (vX1_lives p0 p1))))))))))))))
set_option maxHeartbeats 4000000 in
set_option maxRecDepth 100000 in
theorem hX1_worth (l : Launch) (D : va_G) (K : JK) (G : JG) (p0 : Int32) (p1 : Int32) (p2 : Int32) (hk : kX1_worth p0 p1 p2) (sz : Nat) : Met l yX1_worth (.code yX1_worth cX1_worth 4 (some .int) :: jGW) rX1_worth (jPre D (jT K) G [.int p0, .int p1, .int p2] ([] : va_W) sz) (jQi D (jT K) (vX1_worth p0 p1 p2) ([] : va_W) (va_A ([] : va_W) sz)) 0 0 (va_A ([] : va_W) sz) := by
  refine jEi (by decide) (Nat.le_of_ble_eq_true rfl) (fun p e s m below meth c A Q ls hat hP hD hS hl hend => ?_)
  obtain ⟨hx, hb, hml, hown, hts, hK, hZ, hA⟩ := hat
  have hl : lv_has ls 4 [(0, .int p0), (1, .int p1), (2, .int p2)] := hl
  have hc83 : ∀ (x3 : Int32) (H : Heap) (locs : List Loc) (ls : Array Slot), (vX1_worth p0 p1 p2) = vX1_worth_c83 p0 p1 p2 x3 → kX1_worth_c83 p0 p1 p2 x3 → va_P D vwCl ([] : va_W) H → va_D A ([] : va_W) → va_S A s.heap H locs → lv_has ls 4 [(0, .int p0), (1, .int p1), (2, .int p2), (3, .int x3)] → W p l e rX1_worth s m ([.int p0, .int p1, .int p2] : List Value).toArray below meth c H locs 0 0 Q (F0 m 83 ls []) := by
    intro x3 H locs ls hV hk hP hD hS hl
    rw [vX1_worth_c83] at hV
    rw [kX1_worth_c83] at hk
    refine lv_iload_n hx hb dX1_worth_83 rfl (lv_at hl 1 rfl) ?_
    refine lv_iload_n hx hb dX1_worth_84 rfl (lv_at hl 2 rfl) ?_
    refine lv_iload_n hx hb dX1_worth_85 rfl (lv_at hl 3 rfl) ?_
    obtain ⟨h11, hk⟩ := hk
    refine jci0 (jrunS (As := [.int p1, .int p2, .int x3]) (rest := []) hx hb hml hown hts hK hZ hA hP hD hS hl.1 mf_X1_shareLeft kl_X1_23 ⟨rfl, rfl, Nat.le_of_ble_eq_true rfl, Nat.le_of_ble_eq_true rfl⟩ ⟨Nat.zero_le _, Nat.zero_le _⟩ [] rfl rfl (hX1_shareLeft l D K G p1 p2 x3 h11 _) rfl rfl (Nat.le_of_ble_eq_true rfl) dX1_worth_86) hA hP hD hS [] rfl (fun H locs hP hS => ?_)
    exact hend _ _ _ _ _ hP hD hS hV.symm rfl dX1_worth_89
  have hc44 : ∀ (x3 : Int32) (H : Heap) (locs : List Loc) (ls : Array Slot), (vX1_worth p0 p1 p2) = vX1_worth_c44 p0 p1 p2 x3 → kX1_worth_c44 p0 p1 p2 x3 → va_P D vwCl ([] : va_W) H → va_D A ([] : va_W) → va_S A s.heap H locs → lv_has ls 4 [(0, .int p0), (1, .int p1), (2, .int p2), (3, .int x3)] → W p l e rX1_worth s m ([.int p0, .int p1, .int p2] : List Value).toArray below meth c H locs 0 0 Q (F0 m 44 ls []) := by
    intro x3 H locs ls hV hk hP hD hS hl
    rw [vX1_worth_c44] at hV
    rw [kX1_worth_c44] at hk
    refine lv_iload_n hx hb dX1_worth_44 rfl (lv_at hl 1 rfl) ?_
    refine lv_bipush (v := (20 : Int32)) hx hb dX1_worth_45 (by decide) ?_
    refine lv_iload_n hx hb dX1_worth_47 rfl (lv_at hl 1 rfl) ?_
    refine lv_iload_n hx hb dX1_worth_48 rfl (lv_at hl 2 rfl) ?_
    refine lv_iload_n hx hb dX1_worth_49 rfl (lv_at hl 3 rfl) ?_
    obtain ⟨h12, hk⟩ := hk
    refine jci0 (jrunS (As := [.int p1, .int p2, .int x3]) (rest := [.int (20 : Int32), .int p1]) hx hb hml hown hts hK hZ hA hP hD hS hl.1 mf_X1_shareLeft kl_X1_23 ⟨rfl, rfl, Nat.le_of_ble_eq_true rfl, Nat.le_of_ble_eq_true rfl⟩ ⟨Nat.zero_le _, Nat.zero_le _⟩ [] rfl rfl (hX1_shareLeft l D K G p1 p2 x3 h12 _) rfl rfl (Nat.le_of_ble_eq_true rfl) dX1_worth_50) hA hP hD hS [] rfl (fun H locs hP hS => ?_)
    refine mmax_X1_27 hx hb (hml.trans hl.1.symm) hts hown (Nat.le_of_ble_eq_true rfl) (Nat.le_of_ble_eq_true rfl) (Nat.zero_le _) (Nat.zero_le _) dX1_worth_53 ?_
    refine mmin_X1_32 hx hb (hml.trans hl.1.symm) hts hown (Nat.le_of_ble_eq_true rfl) (Nat.le_of_ble_eq_true rfl) (Nat.zero_le _) (Nat.zero_le _) dX1_worth_56 ?_
    exact hend _ _ _ _ _ hP hD hS hV.symm rfl dX1_worth_59
  have hV := vX1_worth.eq_1 p0 p1 p2
  rw [kX1_worth] at hk
  refine lv_iload_n hx hb dX1_worth_0 rfl (lv_at hl 0 rfl) ?_
  refine lv_iload_n hx hb dX1_worth_1 rfl (lv_at hl 1 rfl) ?_
  refine jci0 (jrunS (As := [.int p0, .int p1]) (rest := []) hx hb hml hown hts hK hZ hA hP hD hS hl.1 mf_X1_lives kl_X1_19 ⟨rfl, rfl, Nat.le_of_ble_eq_true rfl, Nat.le_of_ble_eq_true rfl⟩ ⟨Nat.zero_le _, Nat.zero_le _⟩ [] rfl rfl (hX1_lives l D K G p0 p1 _) rfl rfl (Nat.le_of_ble_eq_true rfl) dX1_worth_2) hA hP hD hS [] rfl (fun H locs hP hS => ?_)
  refine lv_istore_n (lv' := [(3, .int (vX1_lives p0 p1)), (0, .int p0), (1, .int p1), (2, .int p2)]) hx hb dX1_worth_5 rfl hl (by decide) rfl (fun ls hl => ?_)
  refine lv_iload_n hx hb dX1_worth_6 rfl (lv_at hl 1 rfl) ?_
  by_cases c13 : (p0 = (1 : Int32))
  · have hV := hV.trans (if_pos c13)
    have hk := hk.1 c13
    refine lv_tableIn (off := 37) (tgt := 44) hx hb dX1_worth_7 (by rw [c13]; decide) (by rw [c13]; decide) (by rw [c13]; rfl) (by decide) ?_
    exact hc44 (vX1_lives p0 p1) _ _ _ hV hk hP hD hS (lv_sub hl [1, 2, 3, 0] rfl)
  · have hV := hV.trans (if_neg c13)
    have hk := hk.2 c13
    by_cases c14 : (p0 = (2 : Int32))
    · have hV := hV.trans (if_pos c14)
      have hk := hk.1 c14
      refine lv_tableIn (off := 53) (tgt := 60) hx hb dX1_worth_7 (by rw [c14]; decide) (by rw [c14]; decide) (by rw [c14]; rfl) (by decide) ?_
      refine lv_iload_n hx hb dX1_worth_60 rfl (lv_at hl 2 rfl) ?_
      exact hend _ _ _ _ _ hP hD hS hV.symm rfl dX1_worth_61
    · have hV := hV.trans (if_neg c14)
      have hk := hk.2 c14
      by_cases c15 : (p0 = (3 : Int32))
      · have hV := hV.trans (if_pos c15)
        have hk := hk.1 c15
        refine lv_tableIn (off := 55) (tgt := 62) hx hb dX1_worth_7 (by rw [c15]; decide) (by rw [c15]; decide) (by rw [c15]; rfl) (by decide) ?_
        refine lv_iload_n hx hb dX1_worth_62 rfl (lv_at hl 2 rfl) ?_
        refine lv_iconst (v := (2 : Int32)) hx hb dX1_worth_63 (by decide) ?_
        refine lv_idiv hx hb dX1_worth_64 (by decide) ?_
        refine lv_iload_n hx hb dX1_worth_65 rfl (lv_at hl 3 rfl) ?_
        refine lv_iload_n hx hb dX1_worth_66 rfl (lv_at hl 0 rfl) ?_
        obtain ⟨h20, hk⟩ := hk
        refine jci0 (jrunS (As := [.int (p1 / (2 : Int32)), .int p2, .int (vX1_lives p0 p1)]) (rest := []) hx hb hml hown hts hK hZ hA hP hD hS hl.1 mf_X1_shareLeft kl_X1_23 ⟨rfl, rfl, Nat.le_of_ble_eq_true rfl, Nat.le_of_ble_eq_true rfl⟩ ⟨Nat.zero_le _, Nat.zero_le _⟩ [] rfl rfl (hX1_shareLeft l D K G (p1 / (2 : Int32)) p2 (vX1_lives p0 p1) h20 _) rfl rfl (Nat.le_of_ble_eq_true rfl) dX1_worth_67) hA hP hD hS [] rfl (fun H locs hP hS => ?_)
        exact hend _ _ _ _ _ hP hD hS hV.symm rfl dX1_worth_70
      · have hV := hV.trans (if_neg c15)
        have hk := hk.2 c15
        by_cases c16 : (p0 = (4 : Int32))
        · have hV := hV.trans (if_pos c16)
          have hk := hk.1 c16
          refine lv_tableIn (off := 64) (tgt := 71) hx hb dX1_worth_7 (by rw [c16]; decide) (by rw [c16]; decide) (by rw [c16]; rfl) (by decide) ?_
          refine lv_iload_n hx hb dX1_worth_71 rfl (lv_at hl 2 rfl) ?_
          refine lv_iconst (v := (2 : Int32)) hx hb dX1_worth_72 (by decide) ?_
          refine lv_idiv hx hb dX1_worth_73 (by decide) ?_
          refine lv_iload_n hx hb dX1_worth_74 rfl (lv_at hl 3 rfl) ?_
          refine lv_iload_n hx hb dX1_worth_75 rfl (lv_at hl 0 rfl) ?_
          obtain ⟨h19, hk⟩ := hk
          refine jci0 (jrunS (As := [.int (p1 / (2 : Int32)), .int p2, .int (vX1_lives p0 p1)]) (rest := []) hx hb hml hown hts hK hZ hA hP hD hS hl.1 mf_X1_shareLeft kl_X1_23 ⟨rfl, rfl, Nat.le_of_ble_eq_true rfl, Nat.le_of_ble_eq_true rfl⟩ ⟨Nat.zero_le _, Nat.zero_le _⟩ [] rfl rfl (hX1_shareLeft l D K G (p1 / (2 : Int32)) p2 (vX1_lives p0 p1) h19 _) rfl rfl (Nat.le_of_ble_eq_true rfl) dX1_worth_76) hA hP hD hS [] rfl (fun H locs hP hS => ?_)
          refine lv_bipush (v := (50 : Int32)) hx hb dX1_worth_79 (by decide) ?_
          refine lv_iadd hx hb dX1_worth_81 ?_
          exact hend _ _ _ _ _ hP hD hS hV.symm rfl dX1_worth_82
        · have hV := hV.trans (if_neg c16)
          have hk := hk.2 c16
          by_cases c17 : (p0 = (5 : Int32))
          · have hV := hV.trans (if_pos c17)
            have hk := hk.1 c17
            refine lv_tableIn (off := 76) (tgt := 83) hx hb dX1_worth_7 (by rw [c17]; decide) (by rw [c17]; decide) (by rw [c17]; rfl) (by decide) ?_
            exact hc83 (vX1_lives p0 p1) _ _ _ hV hk hP hD hS (lv_sub hl [1, 2, 3, 0] rfl)
          · have hV := hV.trans (if_neg c17)
            have hk := hk.2 c17
            by_cases c18 : (p0 = (6 : Int32))
            · have hV := hV.trans (if_pos c18)
              have hk := hk.1 c18
              refine lv_tableIn (off := 37) (tgt := 44) hx hb dX1_worth_7 (by rw [c18]; decide) (by rw [c18]; decide) (by rw [c18]; rfl) (by decide) ?_
              exact hc44 (vX1_lives p0 p1) _ _ _ hV hk hP hD hS (lv_sub hl [1, 2, 3, 0] rfl)
            · have hV := hV.trans (if_neg c18)
              have hk := hk.2 c18
              refine lv_tableOut (tgt := 83) hx hb dX1_worth_7 (by have n0 := jneL (z := 1) c13 (by decide); have n1 := jneL (z := 2) c14 (by decide); have n2 := jneL (z := 3) c15 (by decide); have n3 := jneL (z := 4) c16 (by decide); have n4 := jneL (z := 5) c17 (by decide); have n5 := jneL (z := 6) c18 (by decide); omega) (by decide) ?_
              exact hc83 (vX1_lives p0 p1) _ _ _ hV hk hP hD hS (lv_sub hl [1, 2, 3, 0] rfl)
theorem dX1_fair_0 : decode cX1_fair 0 = .ok (.iload_n 0, 1) := by decide +kernel
theorem dX1_fair_1 : decode cX1_fair 1 = .ok (.tableswitch 85 1 6 #[39, 55, 60, 67, 69, 46], 39) := by decide +kernel
theorem dX1_fair_40 : decode cX1_fair 40 = .ok (.iload_n 1, 1) := by decide +kernel
theorem dX1_fair_41 : decode cX1_fair 41 = .ok (.bipush 20, 2) := by decide +kernel
theorem dX1_fair_43 : decode cX1_fair 43 = .ok (.idiv, 1) := by decide +kernel
theorem dX1_fair_44 : decode cX1_fair 44 = .ok (.iload_n 2, 1) := by decide +kernel
theorem dX1_fair_45 : decode cX1_fair 45 = .ok (.iadd, 1) := by decide +kernel
theorem dX1_fair_46 : decode cX1_fair 46 = .ok (.ireturn, 1) := by decide +kernel
theorem dX1_fair_47 : decode cX1_fair 47 = .ok (.iconst 2, 1) := by decide +kernel
theorem dX1_fair_48 : decode cX1_fair 48 = .ok (.iload_n 1, 1) := by decide +kernel
theorem dX1_fair_49 : decode cX1_fair 49 = .ok (.bipush 20, 2) := by decide +kernel
theorem dX1_fair_51 : decode cX1_fair 51 = .ok (.idiv, 1) := by decide +kernel
theorem dX1_fair_52 : decode cX1_fair 52 = .ok (.iload_n 2, 1) := by decide +kernel
theorem dX1_fair_53 : decode cX1_fair 53 = .ok (.iadd, 1) := by decide +kernel
theorem dX1_fair_54 : decode cX1_fair 54 = .ok (.imul, 1) := by decide +kernel
theorem dX1_fair_55 : decode cX1_fair 55 = .ok (.ireturn, 1) := by decide +kernel
theorem dX1_fair_56 : decode cX1_fair 56 = .ok (.iload_n 1, 1) := by decide +kernel
theorem dX1_fair_57 : decode cX1_fair 57 = .ok (.bipush 50, 2) := by decide +kernel
theorem dX1_fair_59 : decode cX1_fair 59 = .ok (.idiv, 1) := by decide +kernel
theorem dX1_fair_60 : decode cX1_fair 60 = .ok (.ireturn, 1) := by decide +kernel
theorem dX1_fair_61 : decode cX1_fair 61 = .ok (.iload_n 1, 1) := by decide +kernel
theorem dX1_fair_62 : decode cX1_fair 62 = .ok (.bipush 50, 2) := by decide +kernel
theorem dX1_fair_64 : decode cX1_fair 64 = .ok (.idiv, 1) := by decide +kernel
theorem dX1_fair_65 : decode cX1_fair 65 = .ok (.iconst 3, 1) := by decide +kernel
theorem dX1_fair_66 : decode cX1_fair 66 = .ok (.iadd, 1) := by decide +kernel
theorem dX1_fair_67 : decode cX1_fair 67 = .ok (.ireturn, 1) := by decide +kernel
theorem dX1_fair_68 : decode cX1_fair 68 = .ok (.iconst 0, 1) := by decide +kernel
theorem dX1_fair_69 : decode cX1_fair 69 = .ok (.ireturn, 1) := by decide +kernel
theorem dX1_fair_70 : decode cX1_fair 70 = .ok (.iload_n 1, 1) := by decide +kernel
theorem dX1_fair_71 : decode cX1_fair 71 = .ok (.bipush 100, 2) := by decide +kernel
theorem dX1_fair_73 : decode cX1_fair 73 = .ok (.if_icmp .lt 8, 3) := by decide +kernel
theorem dX1_fair_76 : decode cX1_fair 76 = .ok (.bipush 99, 2) := by decide +kernel
theorem dX1_fair_78 : decode cX1_fair 78 = .ok (.goto 7, 3) := by decide +kernel
theorem dX1_fair_81 : decode cX1_fair 81 = .ok (.iload_n 1, 1) := by decide +kernel
theorem dX1_fair_82 : decode cX1_fair 82 = .ok (.bipush 20, 2) := by decide +kernel
theorem dX1_fair_84 : decode cX1_fair 84 = .ok (.idiv, 1) := by decide +kernel
theorem dX1_fair_85 : decode cX1_fair 85 = .ok (.ireturn, 1) := by decide +kernel
theorem dX1_fair_86 : decode cX1_fair 86 = .ok (.iload_n 1, 1) := by decide +kernel
theorem dX1_fair_87 : decode cX1_fair 87 = .ok (.bipush 20, 2) := by decide +kernel
theorem dX1_fair_89 : decode cX1_fair 89 = .ok (.idiv, 1) := by decide +kernel
theorem dX1_fair_90 : decode cX1_fair 90 = .ok (.ireturn, 1) := by decide +kernel
def rX1_fair : Room := { frames := 0, cells := 0, slots := 0, locals := 0 }
def vX1_fair (p0 : Int32) (p1 : Int32) (p2 : Int32) : Int32 := if (p0 = (1 : Int32)) then ((p1 / (20 : Int32)) + p2) else if (p0 = (2 : Int32)) then (p1 / (50 : Int32)) else if (p0 = (3 : Int32)) then ((p1 / (50 : Int32)) + (3 : Int32)) else if (p0 = (4 : Int32)) then (0 : Int32) else if (p0 = (5 : Int32)) then (if (p1 < (100 : Int32)) then (p1 / (20 : Int32)) else (99 : Int32)) else if (p0 = (6 : Int32)) then ((2 : Int32) * ((p1 / (20 : Int32)) + p2)) else (p1 / (20 : Int32))
set_option maxHeartbeats 4000000 in
set_option maxRecDepth 100000 in
theorem hX1_fair (l : Launch) (D : va_G) (K : JK) (G : JG) (p0 : Int32) (p1 : Int32) (p2 : Int32) (sz : Nat) : Met l yX1_fair (.code yX1_fair cX1_fair 3 (some .int) :: jGW) rX1_fair (jPre D (jT K) G [.int p0, .int p1, .int p2] ([] : va_W) sz) (jQi D (jT K) (vX1_fair p0 p1 p2) ([] : va_W) (va_A ([] : va_W) sz)) 0 0 (va_A ([] : va_W) sz) := by
  refine jEi (by decide) (Nat.le_of_ble_eq_true rfl) (fun p e s m below meth c A Q ls hat hP hD hS hl hend => ?_)
  obtain ⟨hx, hb, hml, hown, hts, hK, hZ, hA⟩ := hat
  have hl : lv_has ls 3 [(0, .int p0), (1, .int p1), (2, .int p2)] := hl
  have hV := vX1_fair.eq_1 p0 p1 p2
  refine lv_iload_n hx hb dX1_fair_0 rfl (lv_at hl 0 rfl) ?_
  by_cases c8 : (p0 = (1 : Int32))
  · have hV := hV.trans (if_pos c8)
    refine lv_tableIn (off := 39) (tgt := 40) hx hb dX1_fair_1 (by rw [c8]; decide) (by rw [c8]; decide) (by rw [c8]; rfl) (by decide) ?_
    refine lv_iload_n hx hb dX1_fair_40 rfl (lv_at hl 1 rfl) ?_
    refine lv_bipush (v := (20 : Int32)) hx hb dX1_fair_41 (by decide) ?_
    refine lv_idiv hx hb dX1_fair_43 (by decide) ?_
    refine lv_iload_n hx hb dX1_fair_44 rfl (lv_at hl 2 rfl) ?_
    refine lv_iadd hx hb dX1_fair_45 ?_
    exact hend _ _ _ _ _ hP hD hS hV.symm rfl dX1_fair_46
  · have hV := hV.trans (if_neg c8)
    by_cases c9 : (p0 = (2 : Int32))
    · have hV := hV.trans (if_pos c9)
      refine lv_tableIn (off := 55) (tgt := 56) hx hb dX1_fair_1 (by rw [c9]; decide) (by rw [c9]; decide) (by rw [c9]; rfl) (by decide) ?_
      refine lv_iload_n hx hb dX1_fair_56 rfl (lv_at hl 1 rfl) ?_
      refine lv_bipush (v := (50 : Int32)) hx hb dX1_fair_57 (by decide) ?_
      refine lv_idiv hx hb dX1_fair_59 (by decide) ?_
      exact hend _ _ _ _ _ hP hD hS hV.symm rfl dX1_fair_60
    · have hV := hV.trans (if_neg c9)
      by_cases c10 : (p0 = (3 : Int32))
      · have hV := hV.trans (if_pos c10)
        refine lv_tableIn (off := 60) (tgt := 61) hx hb dX1_fair_1 (by rw [c10]; decide) (by rw [c10]; decide) (by rw [c10]; rfl) (by decide) ?_
        refine lv_iload_n hx hb dX1_fair_61 rfl (lv_at hl 1 rfl) ?_
        refine lv_bipush (v := (50 : Int32)) hx hb dX1_fair_62 (by decide) ?_
        refine lv_idiv hx hb dX1_fair_64 (by decide) ?_
        refine lv_iconst (v := (3 : Int32)) hx hb dX1_fair_65 (by decide) ?_
        refine lv_iadd hx hb dX1_fair_66 ?_
        exact hend _ _ _ _ _ hP hD hS hV.symm rfl dX1_fair_67
      · have hV := hV.trans (if_neg c10)
        by_cases c11 : (p0 = (4 : Int32))
        · have hV := hV.trans (if_pos c11)
          refine lv_tableIn (off := 67) (tgt := 68) hx hb dX1_fair_1 (by rw [c11]; decide) (by rw [c11]; decide) (by rw [c11]; rfl) (by decide) ?_
          refine lv_iconst (v := (0 : Int32)) hx hb dX1_fair_68 (by decide) ?_
          exact hend _ _ _ _ _ hP hD hS hV.symm rfl dX1_fair_69
        · have hV := hV.trans (if_neg c11)
          by_cases c12 : (p0 = (5 : Int32))
          · have hV := hV.trans (if_pos c12)
            refine lv_tableIn (off := 69) (tgt := 70) hx hb dX1_fair_1 (by rw [c12]; decide) (by rw [c12]; decide) (by rw [c12]; rfl) (by decide) ?_
            refine lv_iload_n hx hb dX1_fair_70 rfl (lv_at hl 1 rfl) ?_
            refine lv_bipush (v := (100 : Int32)) hx hb dX1_fair_71 (by decide) ?_
            refine lv_icmp_lt (tgt := 81) hx hb dX1_fair_73 (by decide) (fun c14 => ?_) (fun c14 => ?_)
            · have hV := hV.trans (if_pos c14)
              refine lv_iload_n hx hb dX1_fair_81 rfl (lv_at hl 1 rfl) ?_
              refine lv_bipush (v := (20 : Int32)) hx hb dX1_fair_82 (by decide) ?_
              refine lv_idiv hx hb dX1_fair_84 (by decide) ?_
              exact hend _ _ _ _ _ hP hD hS hV.symm rfl dX1_fair_85
            · have hV := hV.trans (if_neg c14)
              refine lv_bipush (v := (99 : Int32)) hx hb dX1_fair_76 (by decide) ?_
              refine lv_goto (tgt := 85) hx hb dX1_fair_78 (by decide) ?_
              exact hend _ _ _ _ _ hP hD hS hV.symm rfl dX1_fair_85
          · have hV := hV.trans (if_neg c12)
            by_cases c13 : (p0 = (6 : Int32))
            · have hV := hV.trans (if_pos c13)
              refine lv_tableIn (off := 46) (tgt := 47) hx hb dX1_fair_1 (by rw [c13]; decide) (by rw [c13]; decide) (by rw [c13]; rfl) (by decide) ?_
              refine lv_iconst (v := (2 : Int32)) hx hb dX1_fair_47 (by decide) ?_
              refine lv_iload_n hx hb dX1_fair_48 rfl (lv_at hl 1 rfl) ?_
              refine lv_bipush (v := (20 : Int32)) hx hb dX1_fair_49 (by decide) ?_
              refine lv_idiv hx hb dX1_fair_51 (by decide) ?_
              refine lv_iload_n hx hb dX1_fair_52 rfl (lv_at hl 2 rfl) ?_
              refine lv_iadd hx hb dX1_fair_53 ?_
              refine lv_imul hx hb dX1_fair_54 ?_
              exact hend _ _ _ _ _ hP hD hS hV.symm rfl dX1_fair_55
            · have hV := hV.trans (if_neg c13)
              refine lv_tableOut (tgt := 86) hx hb dX1_fair_1 (by have n0 := jneL (z := 1) c8 (by decide); have n1 := jneL (z := 2) c9 (by decide); have n2 := jneL (z := 3) c10 (by decide); have n3 := jneL (z := 4) c11 (by decide); have n4 := jneL (z := 5) c12 (by decide); have n5 := jneL (z := 6) c13 (by decide); omega) (by decide) ?_
              refine lv_iload_n hx hb dX1_fair_86 rfl (lv_at hl 1 rfl) ?_
              refine lv_bipush (v := (20 : Int32)) hx hb dX1_fair_87 (by decide) ?_
              refine lv_idiv hx hb dX1_fair_89 (by decide) ?_
              exact hend _ _ _ _ _ hP hD hS hV.symm rfl dX1_fair_90
theorem dX1_hurt_0 : decode cX1_hurt 0 = .ok (.iload_n 0, 1) := by decide +kernel
theorem dX1_hurt_1 : decode cX1_hurt 1 = .ok (.tableswitch 86 1 6 #[39, 53, 55, 59, 74, 39], 39) := by decide +kernel
theorem dX1_hurt_40 : decode cX1_hurt 40 = .ok (.iload_n 1, 1) := by decide +kernel
theorem dX1_hurt_41 : decode cX1_hurt 41 = .ok (.ifCond .le 11, 3) := by decide +kernel
theorem dX1_hurt_44 : decode cX1_hurt 44 = .ok (.iconst 5, 1) := by decide +kernel
theorem dX1_hurt_45 : decode cX1_hurt 45 = .ok (.iload_n 1, 1) := by decide +kernel
theorem dX1_hurt_46 : decode cX1_hurt 46 = .ok (.imul, 1) := by decide +kernel
theorem dX1_hurt_47 : decode cX1_hurt 47 = .ok (.iload_n 2, 1) := by decide +kernel
theorem dX1_hurt_48 : decode cX1_hurt 48 = .ok (.iadd, 1) := by decide +kernel
theorem dX1_hurt_49 : decode cX1_hurt 49 = .ok (.goto 4, 3) := by decide +kernel
theorem dX1_hurt_52 : decode cX1_hurt 52 = .ok (.iconst 0, 1) := by decide +kernel
theorem dX1_hurt_53 : decode cX1_hurt 53 = .ok (.ireturn, 1) := by decide +kernel
theorem dX1_hurt_54 : decode cX1_hurt 54 = .ok (.iload_n 1, 1) := by decide +kernel
theorem dX1_hurt_55 : decode cX1_hurt 55 = .ok (.ireturn, 1) := by decide +kernel
theorem dX1_hurt_56 : decode cX1_hurt 56 = .ok (.iconst 2, 1) := by decide +kernel
theorem dX1_hurt_57 : decode cX1_hurt 57 = .ok (.iload_n 1, 1) := by decide +kernel
theorem dX1_hurt_58 : decode cX1_hurt 58 = .ok (.imul, 1) := by decide +kernel
theorem dX1_hurt_59 : decode cX1_hurt 59 = .ok (.ireturn, 1) := by decide +kernel
theorem dX1_hurt_60 : decode cX1_hurt 60 = .ok (.iload_n 1, 1) := by decide +kernel
theorem dX1_hurt_61 : decode cX1_hurt 61 = .ok (.ifCond .le 12, 3) := by decide +kernel
theorem dX1_hurt_64 : decode cX1_hurt 64 = .ok (.iconst 2, 1) := by decide +kernel
theorem dX1_hurt_65 : decode cX1_hurt 65 = .ok (.iload_n 1, 1) := by decide +kernel
theorem dX1_hurt_66 : decode cX1_hurt 66 = .ok (.imul, 1) := by decide +kernel
theorem dX1_hurt_67 : decode cX1_hurt 67 = .ok (.bipush 10, 2) := by decide +kernel
theorem dX1_hurt_69 : decode cX1_hurt 69 = .ok (.iadd, 1) := by decide +kernel
theorem dX1_hurt_70 : decode cX1_hurt 70 = .ok (.goto 4, 3) := by decide +kernel
theorem dX1_hurt_73 : decode cX1_hurt 73 = .ok (.iconst 0, 1) := by decide +kernel
theorem dX1_hurt_74 : decode cX1_hurt 74 = .ok (.ireturn, 1) := by decide +kernel
theorem dX1_hurt_75 : decode cX1_hurt 75 = .ok (.iload_n 1, 1) := by decide +kernel
theorem dX1_hurt_76 : decode cX1_hurt 76 = .ok (.iconst 5, 1) := by decide +kernel
theorem dX1_hurt_77 : decode cX1_hurt 77 = .ok (.if_icmp .lt 8, 3) := by decide +kernel
theorem dX1_hurt_80 : decode cX1_hurt 80 = .ok (.bipush 99, 2) := by decide +kernel
theorem dX1_hurt_82 : decode cX1_hurt 82 = .ok (.goto 4, 3) := by decide +kernel
theorem dX1_hurt_85 : decode cX1_hurt 85 = .ok (.iconst 0, 1) := by decide +kernel
theorem dX1_hurt_86 : decode cX1_hurt 86 = .ok (.ireturn, 1) := by decide +kernel
theorem dX1_hurt_87 : decode cX1_hurt 87 = .ok (.iconst 5, 1) := by decide +kernel
theorem dX1_hurt_88 : decode cX1_hurt 88 = .ok (.iload_n 1, 1) := by decide +kernel
theorem dX1_hurt_89 : decode cX1_hurt 89 = .ok (.imul, 1) := by decide +kernel
theorem dX1_hurt_90 : decode cX1_hurt 90 = .ok (.ireturn, 1) := by decide +kernel
def rX1_hurt : Room := { frames := 0, cells := 0, slots := 0, locals := 0 }
def vX1_hurt_c40 (p0 : Int32) (p1 : Int32) (p2 : Int32) : Int32 := if (p1 ≤ 0) then (0 : Int32) else (((5 : Int32) * p1) + p2)
def vX1_hurt (p0 : Int32) (p1 : Int32) (p2 : Int32) : Int32 := if (p0 = (1 : Int32)) then (vX1_hurt_c40 p0 p1 p2) else if (p0 = (2 : Int32)) then p1 else if (p0 = (3 : Int32)) then ((2 : Int32) * p1) else if (p0 = (4 : Int32)) then (if (p1 ≤ 0) then (0 : Int32) else (((2 : Int32) * p1) + (10 : Int32))) else if (p0 = (5 : Int32)) then (if (p1 < (5 : Int32)) then (0 : Int32) else (99 : Int32)) else if (p0 = (6 : Int32)) then (vX1_hurt_c40 p0 p1 p2) else ((5 : Int32) * p1)
set_option maxHeartbeats 4000000 in
set_option maxRecDepth 100000 in
theorem hX1_hurt (l : Launch) (D : va_G) (K : JK) (G : JG) (p0 : Int32) (p1 : Int32) (p2 : Int32) (sz : Nat) : Met l yX1_hurt (.code yX1_hurt cX1_hurt 3 (some .int) :: jGW) rX1_hurt (jPre D (jT K) G [.int p0, .int p1, .int p2] ([] : va_W) sz) (jQi D (jT K) (vX1_hurt p0 p1 p2) ([] : va_W) (va_A ([] : va_W) sz)) 0 0 (va_A ([] : va_W) sz) := by
  refine jEi (by decide) (Nat.le_of_ble_eq_true rfl) (fun p e s m below meth c A Q ls hat hP hD hS hl hend => ?_)
  obtain ⟨hx, hb, hml, hown, hts, hK, hZ, hA⟩ := hat
  have hl : lv_has ls 3 [(0, .int p0), (1, .int p1), (2, .int p2)] := hl
  have hc40 : ∀ (H : Heap) (locs : List Loc) (ls : Array Slot), (vX1_hurt p0 p1 p2) = vX1_hurt_c40 p0 p1 p2 → va_P D vwCl ([] : va_W) H → va_D A ([] : va_W) → va_S A s.heap H locs → lv_has ls 3 [(0, .int p0), (1, .int p1), (2, .int p2)] → W p l e rX1_hurt s m ([.int p0, .int p1, .int p2] : List Value).toArray below meth c H locs 0 0 Q (F0 m 40 ls []) := by
    intro H locs ls hV hP hD hS hl
    rw [vX1_hurt_c40] at hV
    refine lv_iload_n hx hb dX1_hurt_40 rfl (lv_at hl 1 rfl) ?_
    refine lv_if_le (tgt := 52) hx hb dX1_hurt_41 (by decide) (fun c10 => ?_) (fun c10 => ?_)
    · have hV := hV.trans (if_pos c10)
      refine lv_iconst (v := (0 : Int32)) hx hb dX1_hurt_52 (by decide) ?_
      exact hend _ _ _ _ _ hP hD hS hV.symm rfl dX1_hurt_53
    · have hV := hV.trans (if_neg c10)
      refine lv_iconst (v := (5 : Int32)) hx hb dX1_hurt_44 (by decide) ?_
      refine lv_iload_n hx hb dX1_hurt_45 rfl (lv_at hl 1 rfl) ?_
      refine lv_imul hx hb dX1_hurt_46 ?_
      refine lv_iload_n hx hb dX1_hurt_47 rfl (lv_at hl 2 rfl) ?_
      refine lv_iadd hx hb dX1_hurt_48 ?_
      refine lv_goto (tgt := 53) hx hb dX1_hurt_49 (by decide) ?_
      exact hend _ _ _ _ _ hP hD hS hV.symm rfl dX1_hurt_53
  have hV := vX1_hurt.eq_1 p0 p1 p2
  refine lv_iload_n hx hb dX1_hurt_0 rfl (lv_at hl 0 rfl) ?_
  by_cases c11 : (p0 = (1 : Int32))
  · have hV := hV.trans (if_pos c11)
    refine lv_tableIn (off := 39) (tgt := 40) hx hb dX1_hurt_1 (by rw [c11]; decide) (by rw [c11]; decide) (by rw [c11]; rfl) (by decide) ?_
    exact hc40 _ _ _ hV hP hD hS (lv_sub hl [0, 1, 2] rfl)
  · have hV := hV.trans (if_neg c11)
    by_cases c12 : (p0 = (2 : Int32))
    · have hV := hV.trans (if_pos c12)
      refine lv_tableIn (off := 53) (tgt := 54) hx hb dX1_hurt_1 (by rw [c12]; decide) (by rw [c12]; decide) (by rw [c12]; rfl) (by decide) ?_
      refine lv_iload_n hx hb dX1_hurt_54 rfl (lv_at hl 1 rfl) ?_
      exact hend _ _ _ _ _ hP hD hS hV.symm rfl dX1_hurt_55
    · have hV := hV.trans (if_neg c12)
      by_cases c13 : (p0 = (3 : Int32))
      · have hV := hV.trans (if_pos c13)
        refine lv_tableIn (off := 55) (tgt := 56) hx hb dX1_hurt_1 (by rw [c13]; decide) (by rw [c13]; decide) (by rw [c13]; rfl) (by decide) ?_
        refine lv_iconst (v := (2 : Int32)) hx hb dX1_hurt_56 (by decide) ?_
        refine lv_iload_n hx hb dX1_hurt_57 rfl (lv_at hl 1 rfl) ?_
        refine lv_imul hx hb dX1_hurt_58 ?_
        exact hend _ _ _ _ _ hP hD hS hV.symm rfl dX1_hurt_59
      · have hV := hV.trans (if_neg c13)
        by_cases c14 : (p0 = (4 : Int32))
        · have hV := hV.trans (if_pos c14)
          refine lv_tableIn (off := 59) (tgt := 60) hx hb dX1_hurt_1 (by rw [c14]; decide) (by rw [c14]; decide) (by rw [c14]; rfl) (by decide) ?_
          refine lv_iload_n hx hb dX1_hurt_60 rfl (lv_at hl 1 rfl) ?_
          refine lv_if_le (tgt := 73) hx hb dX1_hurt_61 (by decide) (fun c18 => ?_) (fun c18 => ?_)
          · have hV := hV.trans (if_pos c18)
            refine lv_iconst (v := (0 : Int32)) hx hb dX1_hurt_73 (by decide) ?_
            exact hend _ _ _ _ _ hP hD hS hV.symm rfl dX1_hurt_74
          · have hV := hV.trans (if_neg c18)
            refine lv_iconst (v := (2 : Int32)) hx hb dX1_hurt_64 (by decide) ?_
            refine lv_iload_n hx hb dX1_hurt_65 rfl (lv_at hl 1 rfl) ?_
            refine lv_imul hx hb dX1_hurt_66 ?_
            refine lv_bipush (v := (10 : Int32)) hx hb dX1_hurt_67 (by decide) ?_
            refine lv_iadd hx hb dX1_hurt_69 ?_
            refine lv_goto (tgt := 74) hx hb dX1_hurt_70 (by decide) ?_
            exact hend _ _ _ _ _ hP hD hS hV.symm rfl dX1_hurt_74
        · have hV := hV.trans (if_neg c14)
          by_cases c15 : (p0 = (5 : Int32))
          · have hV := hV.trans (if_pos c15)
            refine lv_tableIn (off := 74) (tgt := 75) hx hb dX1_hurt_1 (by rw [c15]; decide) (by rw [c15]; decide) (by rw [c15]; rfl) (by decide) ?_
            refine lv_iload_n hx hb dX1_hurt_75 rfl (lv_at hl 1 rfl) ?_
            refine lv_iconst (v := (5 : Int32)) hx hb dX1_hurt_76 (by decide) ?_
            refine lv_icmp_lt (tgt := 85) hx hb dX1_hurt_77 (by decide) (fun c17 => ?_) (fun c17 => ?_)
            · have hV := hV.trans (if_pos c17)
              refine lv_iconst (v := (0 : Int32)) hx hb dX1_hurt_85 (by decide) ?_
              exact hend _ _ _ _ _ hP hD hS hV.symm rfl dX1_hurt_86
            · have hV := hV.trans (if_neg c17)
              refine lv_bipush (v := (99 : Int32)) hx hb dX1_hurt_80 (by decide) ?_
              refine lv_goto (tgt := 86) hx hb dX1_hurt_82 (by decide) ?_
              exact hend _ _ _ _ _ hP hD hS hV.symm rfl dX1_hurt_86
          · have hV := hV.trans (if_neg c15)
            by_cases c16 : (p0 = (6 : Int32))
            · have hV := hV.trans (if_pos c16)
              refine lv_tableIn (off := 39) (tgt := 40) hx hb dX1_hurt_1 (by rw [c16]; decide) (by rw [c16]; decide) (by rw [c16]; rfl) (by decide) ?_
              exact hc40 _ _ _ hV hP hD hS (lv_sub hl [0, 1, 2] rfl)
            · have hV := hV.trans (if_neg c16)
              refine lv_tableOut (tgt := 87) hx hb dX1_hurt_1 (by have n0 := jneL (z := 1) c11 (by decide); have n1 := jneL (z := 2) c12 (by decide); have n2 := jneL (z := 3) c13 (by decide); have n3 := jneL (z := 4) c14 (by decide); have n4 := jneL (z := 5) c15 (by decide); have n5 := jneL (z := 6) c16 (by decide); omega) (by decide) ?_
              refine lv_iconst (v := (5 : Int32)) hx hb dX1_hurt_87 (by decide) ?_
              refine lv_iload_n hx hb dX1_hurt_88 rfl (lv_at hl 1 rfl) ?_
              refine lv_imul hx hb dX1_hurt_89 ?_
              exact hend _ _ _ _ _ hP hD hS hV.symm rfl dX1_hurt_90
theorem dX4_thingOfBlow_0 : decode cX4_thingOfBlow 0 = .ok (.iload_n 0, 1) := by decide +kernel
theorem dX4_thingOfBlow_1 : decode cX4_thingOfBlow 1 = .ok (.bipush 10, 2) := by decide +kernel
theorem dX4_thingOfBlow_3 : decode cX4_thingOfBlow 3 = .ok (.idiv, 1) := by decide +kernel
theorem dX4_thingOfBlow_4 : decode cX4_thingOfBlow 4 = .ok (.ireturn, 1) := by decide +kernel
def rX4_thingOfBlow : Room := { frames := 0, cells := 0, slots := 0, locals := 0 }
def vX4_thingOfBlow (p0 : Int32) : Int32 := (p0 / (10 : Int32))
set_option maxHeartbeats 4000000 in
set_option maxRecDepth 100000 in
theorem hX4_thingOfBlow (l : Launch) (D : va_G) (K : JK) (G : JG) (p0 : Int32) (sz : Nat) : Met l yX4_thingOfBlow (.code yX4_thingOfBlow cX4_thingOfBlow 1 (some .int) :: jGW) rX4_thingOfBlow (jPre D (jT K) G [.int p0] ([] : va_W) sz) (jQi D (jT K) (vX4_thingOfBlow p0) ([] : va_W) (va_A ([] : va_W) sz)) 0 0 (va_A ([] : va_W) sz) := by
  refine jEi (by decide) (Nat.le_of_ble_eq_true rfl) (fun p e s m below meth c A Q ls hat hP hD hS hl hend => ?_)
  obtain ⟨hx, hb, hml, hown, hts, hK, hZ, hA⟩ := hat
  have hl : lv_has ls 1 [(0, .int p0)] := hl
  have hV := vX4_thingOfBlow.eq_1 p0
  refine lv_iload_n hx hb dX4_thingOfBlow_0 rfl (lv_at hl 0 rfl) ?_
  refine lv_bipush (v := (10 : Int32)) hx hb dX4_thingOfBlow_1 (by decide) ?_
  refine lv_idiv hx hb dX4_thingOfBlow_3 (by decide) ?_
  exact hend _ _ _ _ _ hP hD hS hV.symm rfl dX4_thingOfBlow_4
theorem dX4_forceOfBlow_0 : decode cX4_forceOfBlow 0 = .ok (.iload_n 0, 1) := by decide +kernel
theorem dX4_forceOfBlow_1 : decode cX4_forceOfBlow 1 = .ok (.bipush 10, 2) := by decide +kernel
theorem dX4_forceOfBlow_3 : decode cX4_forceOfBlow 3 = .ok (.irem, 1) := by decide +kernel
theorem dX4_forceOfBlow_4 : decode cX4_forceOfBlow 4 = .ok (.ireturn, 1) := by decide +kernel
def rX4_forceOfBlow : Room := { frames := 0, cells := 0, slots := 0, locals := 0 }
def vX4_forceOfBlow (p0 : Int32) : Int32 := (jrem p0 (10 : Int32))
set_option maxHeartbeats 4000000 in
set_option maxRecDepth 100000 in
theorem hX4_forceOfBlow (l : Launch) (D : va_G) (K : JK) (G : JG) (p0 : Int32) (sz : Nat) : Met l yX4_forceOfBlow (.code yX4_forceOfBlow cX4_forceOfBlow 1 (some .int) :: jGW) rX4_forceOfBlow (jPre D (jT K) G [.int p0] ([] : va_W) sz) (jQi D (jT K) (vX4_forceOfBlow p0) ([] : va_W) (va_A ([] : va_W) sz)) 0 0 (va_A ([] : va_W) sz) := by
  refine jEi (by decide) (Nat.le_of_ble_eq_true rfl) (fun p e s m below meth c A Q ls hat hP hD hS hl hend => ?_)
  obtain ⟨hx, hb, hml, hown, hts, hK, hZ, hA⟩ := hat
  have hl : lv_has ls 1 [(0, .int p0)] := hl
  have hV := vX4_forceOfBlow.eq_1 p0
  refine lv_iload_n hx hb dX4_forceOfBlow_0 rfl (lv_at hl 0 rfl) ?_
  refine lv_bipush (v := (10 : Int32)) hx hb dX4_forceOfBlow_1 (by decide) ?_
  refine j_irem hx hb dX4_forceOfBlow_3 (by decide) ?_
  exact hend _ _ _ _ _ hP hD hS hV.symm rfl dX4_forceOfBlow_4
theorem dX4_within_0 : decode cX4_within 0 = .ok (.iload_n 0, 1) := by decide +kernel
theorem dX4_within_1 : decode cX4_within 1 = .ok (.iload_n 1, 1) := by decide +kernel
theorem dX4_within_2 : decode cX4_within 2 = .ok (.if_icmp .lt 12, 3) := by decide +kernel
theorem dX4_within_5 : decode cX4_within 5 = .ok (.iload_n 0, 1) := by decide +kernel
theorem dX4_within_6 : decode cX4_within 6 = .ok (.iload_n 2, 1) := by decide +kernel
theorem dX4_within_7 : decode cX4_within 7 = .ok (.if_icmp .gt 7, 3) := by decide +kernel
theorem dX4_within_10 : decode cX4_within 10 = .ok (.iconst 1, 1) := by decide +kernel
theorem dX4_within_11 : decode cX4_within 11 = .ok (.goto 4, 3) := by decide +kernel
theorem dX4_within_14 : decode cX4_within 14 = .ok (.iconst 0, 1) := by decide +kernel
theorem dX4_within_15 : decode cX4_within 15 = .ok (.ireturn, 1) := by decide +kernel
def rX4_within : Room := { frames := 0, cells := 0, slots := 0, locals := 0 }
def vX4_within (p0 : Int32) (p1 : Int32) (p2 : Int32) : Int32 := if (p0 < p1) then (0 : Int32) else if (p2 < p0) then (0 : Int32) else (1 : Int32)
set_option maxHeartbeats 4000000 in
set_option maxRecDepth 100000 in
theorem hX4_within (l : Launch) (D : va_G) (K : JK) (G : JG) (p0 : Int32) (p1 : Int32) (p2 : Int32) (sz : Nat) : Met l yX4_within (.code yX4_within cX4_within 3 (some .boolean) :: jGW) rX4_within (jPre D (jT K) G [.int p0, .int p1, .int p2] ([] : va_W) sz) (jQi D (jT K) (vX4_within p0 p1 p2) ([] : va_W) (va_A ([] : va_W) sz)) 0 0 (va_A ([] : va_W) sz) := by
  refine jEi (by decide) (Nat.le_of_ble_eq_true rfl) (fun p e s m below meth c A Q ls hat hP hD hS hl hend => ?_)
  obtain ⟨hx, hb, hml, hown, hts, hK, hZ, hA⟩ := hat
  have hl : lv_has ls 3 [(0, .int p0), (1, .int p1), (2, .int p2)] := hl
  have hV := vX4_within.eq_1 p0 p1 p2
  refine lv_iload_n hx hb dX4_within_0 rfl (lv_at hl 0 rfl) ?_
  refine lv_iload_n hx hb dX4_within_1 rfl (lv_at hl 1 rfl) ?_
  refine lv_icmp_lt (tgt := 14) hx hb dX4_within_2 (by decide) (fun c3 => ?_) (fun c3 => ?_)
  · have hV := hV.trans (if_pos c3)
    refine lv_iconst (v := (0 : Int32)) hx hb dX4_within_14 (by decide) ?_
    exact hend _ _ _ _ _ hP hD hS hV.symm rfl dX4_within_15
  · have hV := hV.trans (if_neg c3)
    refine lv_iload_n hx hb dX4_within_5 rfl (lv_at hl 0 rfl) ?_
    refine lv_iload_n hx hb dX4_within_6 rfl (lv_at hl 2 rfl) ?_
    refine lv_icmp_gt (tgt := 14) hx hb dX4_within_7 (by decide) (fun c4 => ?_) (fun c4 => ?_)
    · have hV := hV.trans (if_pos c4)
      refine lv_iconst (v := (0 : Int32)) hx hb dX4_within_14 (by decide) ?_
      exact hend _ _ _ _ _ hP hD hS hV.symm rfl dX4_within_15
    · have hV := hV.trans (if_neg c4)
      refine lv_iconst (v := (1 : Int32)) hx hb dX4_within_10 (by decide) ?_
      refine lv_goto (tgt := 15) hx hb dX4_within_11 (by decide) ?_
      exact hend _ _ _ _ _ hP hD hS hV.symm rfl dX4_within_15
theorem dX4_isKind_0 : decode cX4_isKind 0 = .ok (.iload_n 0, 1) := by decide +kernel
theorem dX4_isKind_1 : decode cX4_isKind 1 = .ok (.iconst 0, 1) := by decide +kernel
theorem dX4_isKind_2 : decode cX4_isKind 2 = .ok (.bipush 6, 2) := by decide +kernel
theorem dX4_isKind_4 : decode cX4_isKind 4 = .ok (.invokestatic 50, 3) := by decide +kernel
theorem dX4_isKind_7 : decode cX4_isKind 7 = .ok (.ireturn, 1) := by decide +kernel
def rX4_isKind : Room := { frames := 1, cells := 0, slots := 0, locals := 22 }
def vX4_isKind (p0 : Int32) : Int32 := (vX4_within p0 (0 : Int32) (6 : Int32))
def kX4_isKind (p0 : Int32) : Prop := ((vX4_within p0 (0 : Int32) (6 : Int32)) = 0 ∨ (vX4_within p0 (0 : Int32) (6 : Int32)) = 1) ∧ True
set_option maxHeartbeats 4000000 in
set_option maxRecDepth 100000 in
theorem hX4_isKind (l : Launch) (D : va_G) (K : JK) (G : JG) (p0 : Int32) (hk : kX4_isKind p0) (sz : Nat) : Met l yX4_isKind (.code yX4_isKind cX4_isKind 1 (some .boolean) :: jGW) rX4_isKind (jPre D (jT K) G [.int p0] ([] : va_W) sz) (jQi D (jT K) (vX4_isKind p0) ([] : va_W) (va_A ([] : va_W) sz)) 0 0 (va_A ([] : va_W) sz) := by
  refine jEi (by decide) (Nat.le_of_ble_eq_true rfl) (fun p e s m below meth c A Q ls hat hP hD hS hl hend => ?_)
  obtain ⟨hx, hb, hml, hown, hts, hK, hZ, hA⟩ := hat
  have hl : lv_has ls 1 [(0, .int p0)] := hl
  have hV := vX4_isKind.eq_1 p0
  rw [kX4_isKind] at hk
  refine lv_iload_n hx hb dX4_isKind_0 rfl (lv_at hl 0 rfl) ?_
  refine lv_iconst (v := (0 : Int32)) hx hb dX4_isKind_1 (by decide) ?_
  refine lv_bipush (v := (6 : Int32)) hx hb dX4_isKind_2 (by decide) ?_
  refine jci0 (jrunS (As := [.int p0, .int (0 : Int32), .int (6 : Int32)]) (rest := []) hx hb hml hown hts hK hZ hA hP hD hS hl.1 mf_X4_within kl_X4_50 ⟨rfl, rfl, Nat.le_of_ble_eq_true rfl, Nat.le_of_ble_eq_true rfl⟩ ⟨Nat.zero_le _, Nat.zero_le _⟩ [] rfl rfl (hX4_within l D K G p0 (0 : Int32) (6 : Int32) _) rfl rfl (Nat.le_of_ble_eq_true rfl) dX4_isKind_4) hA hP hD hS [] rfl (fun H locs hP hS => ?_)
  obtain ⟨h2, hk⟩ := hk
  exact hend _ _ _ _ _ hP hD hS hV.symm (jnb h2) dX4_isKind_7
theorem dX1_isOf_0 : decode cX1_isOf 0 = .ok (.iload_n 0, 1) := by decide +kernel
theorem dX1_isOf_1 : decode cX1_isOf 1 = .ok (.istore_n 2, 1) := by decide +kernel
theorem dX1_isOf_2 : decode cX1_isOf 2 = .ok (.iconst 0, 1) := by decide +kernel
theorem dX1_isOf_3 : decode cX1_isOf 3 = .ok (.istore_n 3, 1) := by decide +kernel
theorem dX1_isOf_4 : decode cX1_isOf 4 = .ok (.iload_n 3, 1) := by decide +kernel
theorem dX1_isOf_5 : decode cX1_isOf 5 = .ok (.bipush 7, 2) := by decide +kernel
theorem dX1_isOf_7 : decode cX1_isOf 7 = .ok (.if_icmp .ge 29, 3) := by decide +kernel
theorem dX1_isOf_10 : decode cX1_isOf 10 = .ok (.iload_n 2, 1) := by decide +kernel
theorem dX1_isOf_11 : decode cX1_isOf 11 = .ok (.invokestatic 11, 3) := by decide +kernel
theorem dX1_isOf_14 : decode cX1_isOf 14 = .ok (.ifCond .eq 22, 3) := by decide +kernel
theorem dX1_isOf_17 : decode cX1_isOf 17 = .ok (.iload_n 2, 1) := by decide +kernel
theorem dX1_isOf_18 : decode cX1_isOf 18 = .ok (.iload_n 1, 1) := by decide +kernel
theorem dX1_isOf_19 : decode cX1_isOf 19 = .ok (.if_icmp .ne 5, 3) := by decide +kernel
theorem dX1_isOf_22 : decode cX1_isOf 22 = .ok (.iconst 1, 1) := by decide +kernel
theorem dX1_isOf_23 : decode cX1_isOf 23 = .ok (.ireturn, 1) := by decide +kernel
theorem dX1_isOf_24 : decode cX1_isOf 24 = .ok (.getstatic 15, 3) := by decide +kernel
theorem dX1_isOf_27 : decode cX1_isOf 27 = .ok (.iload_n 2, 1) := by decide +kernel
theorem dX1_isOf_28 : decode cX1_isOf 28 = .ok (.iaload, 1) := by decide +kernel
theorem dX1_isOf_29 : decode cX1_isOf 29 = .ok (.istore_n 2, 1) := by decide +kernel
theorem dX1_isOf_30 : decode cX1_isOf 30 = .ok (.iinc 3 1, 3) := by decide +kernel
theorem dX1_isOf_33 : decode cX1_isOf 33 = .ok (.goto (-29), 3) := by decide +kernel
theorem dX1_isOf_36 : decode cX1_isOf 36 = .ok (.iconst 0, 1) := by decide +kernel
theorem dX1_isOf_37 : decode cX1_isOf 37 = .ok (.ireturn, 1) := by decide +kernel
def rX1_isOf : Room := { frames := 2, cells := 0, slots := 0, locals := 42 }
def vX1_isOf_c4 (p0 : Int32) (p1 : Int32) : Nat → Int32 → Int32 → Int32
  | 0, x2, x3 => (0)
  | n + 1, x2, x3 => if ((7 : Int32) ≤ x3) then (0 : Int32) else if ((vX4_isKind x2) = 0) then (0 : Int32) else if (x2 = p1) then (1 : Int32) else (vX1_isOf_c4 p0 p1 n (jKA.getD (x2).toNatClampNeg 0) (x3 + (1 : Int32)))
def kX1_isOf_c4 (p0 : Int32) (p1 : Int32) : Nat → Int32 → Int32 → Prop
  | 0, _, _ => False
  | n + 1, x2, x3 => (((7 : Int32) ≤ x3) → True) ∧ (¬ ((7 : Int32) ≤ x3) → ((kX4_isKind x2) ∧ (((vX4_isKind x2) = 0) → True) ∧ (¬ ((vX4_isKind x2) = 0) → (((x2 = p1) → True) ∧ (¬ (x2 = p1) → ((vp_in x2 7) ∧ (kX1_isOf_c4 p0 p1 n (jKA.getD (x2).toNatClampNeg 0) (x3 + (1 : Int32)))))))))
def vX1_isOf (p0 : Int32) (p1 : Int32) : Int32 := (vX1_isOf_c4 p0 p1 1024 p0 (0 : Int32))
def kX1_isOf (p0 : Int32) (p1 : Int32) : Prop := (kX1_isOf_c4 p0 p1 1024 p0 (0 : Int32))
set_option maxHeartbeats 4000000 in
set_option maxRecDepth 100000 in
theorem hX1_isOf (l : Launch) (D : va_G) (K : JK) (G : JG) (p0 : Int32) (p1 : Int32) (hk : kX1_isOf p0 p1) (sz : Nat) : Met l yX1_isOf (.code yX1_isOf cX1_isOf 4 (some .boolean) :: jGW) rX1_isOf (jPre D (jT K) G [.int p0, .int p1] ([] : va_W) sz) (jQi D (jT K) (vX1_isOf p0 p1) ([] : va_W) (va_A ([] : va_W) sz)) 0 0 (va_A ([] : va_W) sz) := by
  refine jEi (by decide) (Nat.le_of_ble_eq_true rfl) (fun p e s m below meth c A Q ls hat hP hD hS hl hend => ?_)
  obtain ⟨hx, hb, hml, hown, hts, hK, hZ, hA⟩ := hat
  have hl : lv_has ls 4 [(0, .int p0), (1, .int p1)] := hl
  have hc4 : ∀ (n : Nat) (x2 : Int32) (x3 : Int32) (H : Heap) (locs : List Loc) (ls : Array Slot), (vX1_isOf p0 p1) = vX1_isOf_c4 p0 p1 n x2 x3 → kX1_isOf_c4 p0 p1 n x2 x3 → va_P D vwCl ([] : va_W) H → va_D A ([] : va_W) → va_S A s.heap H locs → lv_has ls 4 [(0, .int p0), (1, .int p1), (2, .int x2), (3, .int x3)] → W p l e rX1_isOf s m ([.int p0, .int p1] : List Value).toArray below meth c H locs 0 0 Q (F0 m 4 ls []) := by
    intro n
    induction n with
    | zero =>
      intro x2 x3 H locs ls hV hk hP hD hS hl
      exact False.elim hk
    | succ n ih =>
      intro x2 x3 H locs ls hV hk hP hD hS hl
      rw [vX1_isOf_c4] at hV
      rw [kX1_isOf_c4] at hk
      refine lv_iload_n hx hb dX1_isOf_4 rfl (lv_at hl 3 rfl) ?_
      refine lv_bipush (v := (7 : Int32)) hx hb dX1_isOf_5 (by decide) ?_
      refine lv_icmp_ge (tgt := 36) hx hb dX1_isOf_7 (by decide) (fun c6 => ?_) (fun c6 => ?_)
      · have hV := hV.trans (if_pos c6)
        have hk := hk.1 c6
        refine lv_iconst (v := (0 : Int32)) hx hb dX1_isOf_36 (by decide) ?_
        exact hend _ _ _ _ _ hP hD hS hV.symm rfl dX1_isOf_37
      · have hV := hV.trans (if_neg c6)
        have hk := hk.2 c6
        refine lv_iload_n hx hb dX1_isOf_10 rfl (lv_at hl 2 rfl) ?_
        obtain ⟨h7, hk⟩ := hk
        refine jci0 (jrunSN (As := [.int x2]) (rest := []) hx hb hml hown hts hK hZ hA hP hD hS hl.1 mf_X4_isKind kl_X1_11 ⟨rfl, rfl, Nat.le_of_ble_eq_true rfl, Nat.le_of_ble_eq_true rfl⟩ ⟨Nat.zero_le _, Nat.zero_le _⟩ [] rfl rfl (hX4_isKind l D K G x2 h7 _) rfl rfl (Nat.le_of_ble_eq_true rfl) dX1_isOf_11) hA hP hD hS [] rfl (fun H locs hP hS => ?_)
        refine lv_if_eq (tgt := 36) hx hb dX1_isOf_14 (by decide) (fun c8 => ?_) (fun c8 => ?_)
        · have hV := hV.trans (if_pos c8)
          have hk := hk.1 c8
          refine lv_iconst (v := (0 : Int32)) hx hb dX1_isOf_36 (by decide) ?_
          exact hend _ _ _ _ _ hP hD hS hV.symm rfl dX1_isOf_37
        · have hV := hV.trans (if_neg c8)
          have hk := hk.2 c8
          refine lv_iload_n hx hb dX1_isOf_17 rfl (lv_at hl 2 rfl) ?_
          refine lv_iload_n hx hb dX1_isOf_18 rfl (lv_at hl 1 rfl) ?_
          refine lv_icmp_ne (tgt := 24) hx hb dX1_isOf_19 (by decide) (fun c9 => ?_) (fun c9 => ?_)
          · have hV := hV.trans (if_neg c9)
            have hk := hk.2 c9
            refine gs_X1_15 hx hb hts hown hZ hS dX1_isOf_24 ?_
            refine lv_iload_n hx hb dX1_isOf_27 rfl (lv_at hl 2 rfl) ?_
            obtain ⟨h10, hk⟩ := hk
            refine va_ti (v := .int (jKA.getD (x2).toNatClampNeg 0)) hx hb (hZ.1 4 _ rfl).2 hS h10 rfl dX1_isOf_28 ?_
            refine lv_istore_n (lv' := [(2, .int (jKA.getD (x2).toNatClampNeg 0)), (0, .int p0), (1, .int p1), (3, .int x3)]) hx hb dX1_isOf_29 rfl hl (by decide) rfl (fun ls hl => ?_)
            refine lv_iinc (v := (x3 + (1 : Int32))) (lv' := [(3, .int (x3 + (1 : Int32))), (2, .int (jKA.getD (x2).toNatClampNeg 0)), (0, .int p0), (1, .int p1)]) hx hb dX1_isOf_30 hl (k := 3) rfl rfl (by decide) rfl (fun ls hl => ?_)
            refine lv_goto (tgt := 4) hx hb dX1_isOf_33 (by decide) ?_
            exact ih (jKA.getD (x2).toNatClampNeg 0) (x3 + (1 : Int32)) _ _ _ hV hk hP hD hS (lv_sub hl [2, 3, 1, 0] rfl)
          · have hV := hV.trans (if_pos c9)
            have hk := hk.1 c9
            refine lv_iconst (v := (1 : Int32)) hx hb dX1_isOf_22 (by decide) ?_
            exact hend _ _ _ _ _ hP hD hS hV.symm rfl dX1_isOf_23
  have hV := vX1_isOf.eq_1 p0 p1
  rw [kX1_isOf] at hk
  refine lv_iload_n hx hb dX1_isOf_0 rfl (lv_at hl 0 rfl) ?_
  refine lv_istore_n (lv' := [(2, .int p0), (0, .int p0), (1, .int p1)]) hx hb dX1_isOf_1 rfl hl (by decide) rfl (fun ls hl => ?_)
  refine lv_iconst (v := (0 : Int32)) hx hb dX1_isOf_2 (by decide) ?_
  refine lv_istore_n (lv' := [(3, .int (0 : Int32)), (2, .int p0), (0, .int p0), (1, .int p1)]) hx hb dX1_isOf_3 rfl hl (by decide) rfl (fun ls hl => ?_)
  exact hc4 1024 p0 (0 : Int32) _ _ _ hV hk hP hD hS (lv_sub hl [2, 3, 1, 0] rfl)
theorem dX4_blowOf_0 : decode cX4_blowOf 0 = .ok (.bipush 10, 2) := by decide +kernel
theorem dX4_blowOf_2 : decode cX4_blowOf 2 = .ok (.iload_n 0, 1) := by decide +kernel
theorem dX4_blowOf_3 : decode cX4_blowOf 3 = .ok (.imul, 1) := by decide +kernel
theorem dX4_blowOf_4 : decode cX4_blowOf 4 = .ok (.iload_n 1, 1) := by decide +kernel
theorem dX4_blowOf_5 : decode cX4_blowOf 5 = .ok (.iadd, 1) := by decide +kernel
theorem dX4_blowOf_6 : decode cX4_blowOf 6 = .ok (.ireturn, 1) := by decide +kernel
def rX4_blowOf : Room := { frames := 0, cells := 0, slots := 0, locals := 0 }
def vX4_blowOf (p0 : Int32) (p1 : Int32) : Int32 := (((10 : Int32) * p0) + p1)
set_option maxHeartbeats 4000000 in
set_option maxRecDepth 100000 in
theorem hX4_blowOf (l : Launch) (D : va_G) (K : JK) (G : JG) (p0 : Int32) (p1 : Int32) (sz : Nat) : Met l yX4_blowOf (.code yX4_blowOf cX4_blowOf 2 (some .int) :: jGW) rX4_blowOf (jPre D (jT K) G [.int p0, .int p1] ([] : va_W) sz) (jQi D (jT K) (vX4_blowOf p0 p1) ([] : va_W) (va_A ([] : va_W) sz)) 0 0 (va_A ([] : va_W) sz) := by
  refine jEi (by decide) (Nat.le_of_ble_eq_true rfl) (fun p e s m below meth c A Q ls hat hP hD hS hl hend => ?_)
  obtain ⟨hx, hb, hml, hown, hts, hK, hZ, hA⟩ := hat
  have hl : lv_has ls 2 [(0, .int p0), (1, .int p1)] := hl
  have hV := vX4_blowOf.eq_1 p0 p1
  refine lv_bipush (v := (10 : Int32)) hx hb dX4_blowOf_0 (by decide) ?_
  refine lv_iload_n hx hb dX4_blowOf_2 rfl (lv_at hl 0 rfl) ?_
  refine lv_imul hx hb dX4_blowOf_3 ?_
  refine lv_iload_n hx hb dX4_blowOf_4 rfl (lv_at hl 1 rfl) ?_
  refine lv_iadd hx hb dX4_blowOf_5 ?_
  exact hend _ _ _ _ _ hP hD hS hV.symm rfl dX4_blowOf_6
theorem dX4_isSpot_0 : decode cX4_isSpot 0 = .ok (.iload_n 0, 1) := by decide +kernel
theorem dX4_isSpot_1 : decode cX4_isSpot 1 = .ok (.iconst 0, 1) := by decide +kernel
theorem dX4_isSpot_2 : decode cX4_isSpot 2 = .ok (.bipush 9, 2) := by decide +kernel
theorem dX4_isSpot_4 : decode cX4_isSpot 4 = .ok (.invokestatic 50, 3) := by decide +kernel
theorem dX4_isSpot_7 : decode cX4_isSpot 7 = .ok (.ireturn, 1) := by decide +kernel
def rX4_isSpot : Room := { frames := 1, cells := 0, slots := 0, locals := 22 }
def vX4_isSpot (p0 : Int32) : Int32 := (vX4_within p0 (0 : Int32) (9 : Int32))
def kX4_isSpot (p0 : Int32) : Prop := ((vX4_within p0 (0 : Int32) (9 : Int32)) = 0 ∨ (vX4_within p0 (0 : Int32) (9 : Int32)) = 1) ∧ True
set_option maxHeartbeats 4000000 in
set_option maxRecDepth 100000 in
theorem hX4_isSpot (l : Launch) (D : va_G) (K : JK) (G : JG) (p0 : Int32) (hk : kX4_isSpot p0) (sz : Nat) : Met l yX4_isSpot (.code yX4_isSpot cX4_isSpot 1 (some .boolean) :: jGW) rX4_isSpot (jPre D (jT K) G [.int p0] ([] : va_W) sz) (jQi D (jT K) (vX4_isSpot p0) ([] : va_W) (va_A ([] : va_W) sz)) 0 0 (va_A ([] : va_W) sz) := by
  refine jEi (by decide) (Nat.le_of_ble_eq_true rfl) (fun p e s m below meth c A Q ls hat hP hD hS hl hend => ?_)
  obtain ⟨hx, hb, hml, hown, hts, hK, hZ, hA⟩ := hat
  have hl : lv_has ls 1 [(0, .int p0)] := hl
  have hV := vX4_isSpot.eq_1 p0
  rw [kX4_isSpot] at hk
  refine lv_iload_n hx hb dX4_isSpot_0 rfl (lv_at hl 0 rfl) ?_
  refine lv_iconst (v := (0 : Int32)) hx hb dX4_isSpot_1 (by decide) ?_
  refine lv_bipush (v := (9 : Int32)) hx hb dX4_isSpot_2 (by decide) ?_
  refine jci0 (jrunS (As := [.int p0, .int (0 : Int32), .int (9 : Int32)]) (rest := []) hx hb hml hown hts hK hZ hA hP hD hS hl.1 mf_X4_within kl_X4_50 ⟨rfl, rfl, Nat.le_of_ble_eq_true rfl, Nat.le_of_ble_eq_true rfl⟩ ⟨Nat.zero_le _, Nat.zero_le _⟩ [] rfl rfl (hX4_within l D K G p0 (0 : Int32) (9 : Int32) _) rfl rfl (Nat.le_of_ble_eq_true rfl) dX4_isSpot_4) hA hP hD hS [] rfl (fun H locs hP hS => ?_)
  obtain ⟨h2, hk⟩ := hk
  exact hend _ _ _ _ _ hP hD hS hV.symm (jnb h2) dX4_isSpot_7
theorem dX4_isPlace_0 : decode cX4_isPlace 0 = .ok (.iload_n 0, 1) := by decide +kernel
theorem dX4_isPlace_1 : decode cX4_isPlace 1 = .ok (.iconst 0, 1) := by decide +kernel
theorem dX4_isPlace_2 : decode cX4_isPlace 2 = .ok (.iconst 5, 1) := by decide +kernel
theorem dX4_isPlace_3 : decode cX4_isPlace 3 = .ok (.invokestatic 50, 3) := by decide +kernel
theorem dX4_isPlace_6 : decode cX4_isPlace 6 = .ok (.ireturn, 1) := by decide +kernel
def rX4_isPlace : Room := { frames := 1, cells := 0, slots := 0, locals := 22 }
def vX4_isPlace (p0 : Int32) : Int32 := (vX4_within p0 (0 : Int32) (5 : Int32))
def kX4_isPlace (p0 : Int32) : Prop := ((vX4_within p0 (0 : Int32) (5 : Int32)) = 0 ∨ (vX4_within p0 (0 : Int32) (5 : Int32)) = 1) ∧ True
set_option maxHeartbeats 4000000 in
set_option maxRecDepth 100000 in
theorem hX4_isPlace (l : Launch) (D : va_G) (K : JK) (G : JG) (p0 : Int32) (hk : kX4_isPlace p0) (sz : Nat) : Met l yX4_isPlace (.code yX4_isPlace cX4_isPlace 1 (some .boolean) :: jGW) rX4_isPlace (jPre D (jT K) G [.int p0] ([] : va_W) sz) (jQi D (jT K) (vX4_isPlace p0) ([] : va_W) (va_A ([] : va_W) sz)) 0 0 (va_A ([] : va_W) sz) := by
  refine jEi (by decide) (Nat.le_of_ble_eq_true rfl) (fun p e s m below meth c A Q ls hat hP hD hS hl hend => ?_)
  obtain ⟨hx, hb, hml, hown, hts, hK, hZ, hA⟩ := hat
  have hl : lv_has ls 1 [(0, .int p0)] := hl
  have hV := vX4_isPlace.eq_1 p0
  rw [kX4_isPlace] at hk
  refine lv_iload_n hx hb dX4_isPlace_0 rfl (lv_at hl 0 rfl) ?_
  refine lv_iconst (v := (0 : Int32)) hx hb dX4_isPlace_1 (by decide) ?_
  refine lv_iconst (v := (5 : Int32)) hx hb dX4_isPlace_2 (by decide) ?_
  refine jci0 (jrunS (As := [.int p0, .int (0 : Int32), .int (5 : Int32)]) (rest := []) hx hb hml hown hts hK hZ hA hP hD hS hl.1 mf_X4_within kl_X4_50 ⟨rfl, rfl, Nat.le_of_ble_eq_true rfl, Nat.le_of_ble_eq_true rfl⟩ ⟨Nat.zero_le _, Nat.zero_le _⟩ [] rfl rfl (hX4_within l D K G p0 (0 : Int32) (5 : Int32) _) rfl rfl (Nat.le_of_ble_eq_true rfl) dX4_isPlace_3) hA hP hD hS [] rfl (fun H locs hP hS => ?_)
  obtain ⟨h2, hk⟩ := hk
  exact hend _ _ _ _ _ hP hD hS hV.symm (jnb h2) dX4_isPlace_6
theorem dX4_isForce_0 : decode cX4_isForce 0 = .ok (.iload_n 0, 1) := by decide +kernel
theorem dX4_isForce_1 : decode cX4_isForce 1 = .ok (.iconst 0, 1) := by decide +kernel
theorem dX4_isForce_2 : decode cX4_isForce 2 = .ok (.bipush 9, 2) := by decide +kernel
theorem dX4_isForce_4 : decode cX4_isForce 4 = .ok (.invokestatic 50, 3) := by decide +kernel
theorem dX4_isForce_7 : decode cX4_isForce 7 = .ok (.ireturn, 1) := by decide +kernel
def rX4_isForce : Room := { frames := 1, cells := 0, slots := 0, locals := 22 }
def vX4_isForce (p0 : Int32) : Int32 := (vX4_within p0 (0 : Int32) (9 : Int32))
def kX4_isForce (p0 : Int32) : Prop := ((vX4_within p0 (0 : Int32) (9 : Int32)) = 0 ∨ (vX4_within p0 (0 : Int32) (9 : Int32)) = 1) ∧ True
set_option maxHeartbeats 4000000 in
set_option maxRecDepth 100000 in
theorem hX4_isForce (l : Launch) (D : va_G) (K : JK) (G : JG) (p0 : Int32) (hk : kX4_isForce p0) (sz : Nat) : Met l yX4_isForce (.code yX4_isForce cX4_isForce 1 (some .boolean) :: jGW) rX4_isForce (jPre D (jT K) G [.int p0] ([] : va_W) sz) (jQi D (jT K) (vX4_isForce p0) ([] : va_W) (va_A ([] : va_W) sz)) 0 0 (va_A ([] : va_W) sz) := by
  refine jEi (by decide) (Nat.le_of_ble_eq_true rfl) (fun p e s m below meth c A Q ls hat hP hD hS hl hend => ?_)
  obtain ⟨hx, hb, hml, hown, hts, hK, hZ, hA⟩ := hat
  have hl : lv_has ls 1 [(0, .int p0)] := hl
  have hV := vX4_isForce.eq_1 p0
  rw [kX4_isForce] at hk
  refine lv_iload_n hx hb dX4_isForce_0 rfl (lv_at hl 0 rfl) ?_
  refine lv_iconst (v := (0 : Int32)) hx hb dX4_isForce_1 (by decide) ?_
  refine lv_bipush (v := (9 : Int32)) hx hb dX4_isForce_2 (by decide) ?_
  refine jci0 (jrunS (As := [.int p0, .int (0 : Int32), .int (9 : Int32)]) (rest := []) hx hb hml hown hts hK hZ hA hP hD hS hl.1 mf_X4_within kl_X4_50 ⟨rfl, rfl, Nat.le_of_ble_eq_true rfl, Nat.le_of_ble_eq_true rfl⟩ ⟨Nat.zero_le _, Nat.zero_le _⟩ [] rfl rfl (hX4_within l D K G p0 (0 : Int32) (9 : Int32) _) rfl rfl (Nat.le_of_ble_eq_true rfl) dX4_isForce_4) hA hP hD hS [] rfl (fun H locs hP hS => ?_)
  obtain ⟨h2, hk⟩ := hk
  exact hend _ _ _ _ _ hP hD hS hV.symm (jnb h2) dX4_isForce_7
theorem dX4_commonDivisor_0 : decode cX4_commonDivisor 0 = .ok (.iload_n 0, 1) := by decide +kernel
theorem dX4_commonDivisor_1 : decode cX4_commonDivisor 1 = .ok (.istore_n 2, 1) := by decide +kernel
theorem dX4_commonDivisor_2 : decode cX4_commonDivisor 2 = .ok (.iload_n 1, 1) := by decide +kernel
theorem dX4_commonDivisor_3 : decode cX4_commonDivisor 3 = .ok (.istore_n 3, 1) := by decide +kernel
theorem dX4_commonDivisor_4 : decode cX4_commonDivisor 4 = .ok (.iconst 0, 1) := by decide +kernel
theorem dX4_commonDivisor_5 : decode cX4_commonDivisor 5 = .ok (.istore 4, 2) := by decide +kernel
theorem dX4_commonDivisor_7 : decode cX4_commonDivisor 7 = .ok (.iload 4, 2) := by decide +kernel
theorem dX4_commonDivisor_9 : decode cX4_commonDivisor 9 = .ok (.bipush 64, 2) := by decide +kernel
theorem dX4_commonDivisor_11 : decode cX4_commonDivisor 11 = .ok (.if_icmp .ge 23, 3) := by decide +kernel
theorem dX4_commonDivisor_14 : decode cX4_commonDivisor 14 = .ok (.iload_n 3, 1) := by decide +kernel
theorem dX4_commonDivisor_15 : decode cX4_commonDivisor 15 = .ok (.ifCond .eq 19, 3) := by decide +kernel
theorem dX4_commonDivisor_18 : decode cX4_commonDivisor 18 = .ok (.iload_n 2, 1) := by decide +kernel
theorem dX4_commonDivisor_19 : decode cX4_commonDivisor 19 = .ok (.iload_n 3, 1) := by decide +kernel
theorem dX4_commonDivisor_20 : decode cX4_commonDivisor 20 = .ok (.irem, 1) := by decide +kernel
theorem dX4_commonDivisor_21 : decode cX4_commonDivisor 21 = .ok (.istore 5, 2) := by decide +kernel
theorem dX4_commonDivisor_23 : decode cX4_commonDivisor 23 = .ok (.iload_n 3, 1) := by decide +kernel
theorem dX4_commonDivisor_24 : decode cX4_commonDivisor 24 = .ok (.istore_n 2, 1) := by decide +kernel
theorem dX4_commonDivisor_25 : decode cX4_commonDivisor 25 = .ok (.iload 5, 2) := by decide +kernel
theorem dX4_commonDivisor_27 : decode cX4_commonDivisor 27 = .ok (.istore_n 3, 1) := by decide +kernel
theorem dX4_commonDivisor_28 : decode cX4_commonDivisor 28 = .ok (.iinc 4 1, 3) := by decide +kernel
theorem dX4_commonDivisor_31 : decode cX4_commonDivisor 31 = .ok (.goto (-24), 3) := by decide +kernel
theorem dX4_commonDivisor_34 : decode cX4_commonDivisor 34 = .ok (.iload_n 2, 1) := by decide +kernel
theorem dX4_commonDivisor_35 : decode cX4_commonDivisor 35 = .ok (.ireturn, 1) := by decide +kernel
def rX4_commonDivisor : Room := { frames := 0, cells := 0, slots := 0, locals := 0 }
def vX4_commonDivisor_c7 (p0 : Int32) (p1 : Int32) : Nat → Int32 → Int32 → Int32 → Int32
  | 0, x2, x3, x4 => (0)
  | n + 1, x2, x3, x4 => if ((64 : Int32) ≤ x4) then x2 else if (x3 = 0) then x2 else (vX4_commonDivisor_c7 p0 p1 n x3 (jrem x2 x3) (x4 + (1 : Int32)))
def kX4_commonDivisor_c7 (p0 : Int32) (p1 : Int32) : Nat → Int32 → Int32 → Int32 → Prop
  | 0, _, _, _ => False
  | n + 1, x2, x3, x4 => (((64 : Int32) ≤ x4) → True) ∧ (¬ ((64 : Int32) ≤ x4) → (((x3 = 0) → True) ∧ (¬ (x3 = 0) → ((¬ x3 = 0) ∧ (kX4_commonDivisor_c7 p0 p1 n x3 (jrem x2 x3) (x4 + (1 : Int32)))))))
def vX4_commonDivisor (p0 : Int32) (p1 : Int32) : Int32 := (vX4_commonDivisor_c7 p0 p1 1024 p0 p1 (0 : Int32))
def kX4_commonDivisor (p0 : Int32) (p1 : Int32) : Prop := (kX4_commonDivisor_c7 p0 p1 1024 p0 p1 (0 : Int32))
set_option maxHeartbeats 4000000 in
set_option maxRecDepth 100000 in
theorem hX4_commonDivisor (l : Launch) (D : va_G) (K : JK) (G : JG) (p0 : Int32) (p1 : Int32) (hk : kX4_commonDivisor p0 p1) (sz : Nat) : Met l yX4_commonDivisor (.code yX4_commonDivisor cX4_commonDivisor 6 (some .int) :: jGW) rX4_commonDivisor (jPre D (jT K) G [.int p0, .int p1] ([] : va_W) sz) (jQi D (jT K) (vX4_commonDivisor p0 p1) ([] : va_W) (va_A ([] : va_W) sz)) 0 0 (va_A ([] : va_W) sz) := by
  refine jEi (by decide) (Nat.le_of_ble_eq_true rfl) (fun p e s m below meth c A Q ls hat hP hD hS hl hend => ?_)
  obtain ⟨hx, hb, hml, hown, hts, hK, hZ, hA⟩ := hat
  have hl : lv_has ls 6 [(0, .int p0), (1, .int p1)] := hl
  have hc7 : ∀ (n : Nat) (x2 : Int32) (x3 : Int32) (x4 : Int32) (H : Heap) (locs : List Loc) (ls : Array Slot), (vX4_commonDivisor p0 p1) = vX4_commonDivisor_c7 p0 p1 n x2 x3 x4 → kX4_commonDivisor_c7 p0 p1 n x2 x3 x4 → va_P D vwCl ([] : va_W) H → va_D A ([] : va_W) → va_S A s.heap H locs → lv_has ls 6 [(0, .int p0), (1, .int p1), (2, .int x2), (3, .int x3), (4, .int x4)] → W p l e rX4_commonDivisor s m ([.int p0, .int p1] : List Value).toArray below meth c H locs 0 0 Q (F0 m 7 ls []) := by
    intro n
    induction n with
    | zero =>
      intro x2 x3 x4 H locs ls hV hk hP hD hS hl
      exact False.elim hk
    | succ n ih =>
      intro x2 x3 x4 H locs ls hV hk hP hD hS hl
      rw [vX4_commonDivisor_c7] at hV
      rw [kX4_commonDivisor_c7] at hk
      refine lv_iload hx hb dX4_commonDivisor_7 (lv_at hl 4 rfl) ?_
      refine lv_bipush (v := (64 : Int32)) hx hb dX4_commonDivisor_9 (by decide) ?_
      refine lv_icmp_ge (tgt := 34) hx hb dX4_commonDivisor_11 (by decide) (fun c4 => ?_) (fun c4 => ?_)
      · have hV := hV.trans (if_pos c4)
        have hk := hk.1 c4
        refine lv_iload_n hx hb dX4_commonDivisor_34 rfl (lv_at hl 2 rfl) ?_
        exact hend _ _ _ _ _ hP hD hS hV.symm rfl dX4_commonDivisor_35
      · have hV := hV.trans (if_neg c4)
        have hk := hk.2 c4
        refine lv_iload_n hx hb dX4_commonDivisor_14 rfl (lv_at hl 3 rfl) ?_
        refine lv_if_eq (tgt := 34) hx hb dX4_commonDivisor_15 (by decide) (fun c5 => ?_) (fun c5 => ?_)
        · have hV := hV.trans (if_pos c5)
          have hk := hk.1 c5
          refine lv_iload_n hx hb dX4_commonDivisor_34 rfl (lv_at hl 2 rfl) ?_
          exact hend _ _ _ _ _ hP hD hS hV.symm rfl dX4_commonDivisor_35
        · have hV := hV.trans (if_neg c5)
          have hk := hk.2 c5
          refine lv_iload_n hx hb dX4_commonDivisor_18 rfl (lv_at hl 2 rfl) ?_
          refine lv_iload_n hx hb dX4_commonDivisor_19 rfl (lv_at hl 3 rfl) ?_
          obtain ⟨h6, hk⟩ := hk
          refine j_irem hx hb dX4_commonDivisor_20 h6 ?_
          refine lv_istore (lv' := [(5, .int (jrem x2 x3)), (0, .int p0), (1, .int p1), (2, .int x2), (3, .int x3), (4, .int x4)]) hx hb dX4_commonDivisor_21 hl (by decide) rfl (fun ls hl => ?_)
          refine lv_iload_n hx hb dX4_commonDivisor_23 rfl (lv_at hl 4 rfl) ?_
          refine lv_istore_n (lv' := [(2, .int x3), (5, .int (jrem x2 x3)), (0, .int p0), (1, .int p1), (3, .int x3), (4, .int x4)]) hx hb dX4_commonDivisor_24 rfl hl (by decide) rfl (fun ls hl => ?_)
          refine lv_iload hx hb dX4_commonDivisor_25 (lv_at hl 1 rfl) ?_
          refine lv_istore_n (lv' := [(3, .int (jrem x2 x3)), (2, .int x3), (5, .int (jrem x2 x3)), (0, .int p0), (1, .int p1), (4, .int x4)]) hx hb dX4_commonDivisor_27 rfl hl (by decide) rfl (fun ls hl => ?_)
          refine lv_iinc (v := (x4 + (1 : Int32))) (lv' := [(4, .int (x4 + (1 : Int32))), (3, .int (jrem x2 x3)), (2, .int x3), (5, .int (jrem x2 x3)), (0, .int p0), (1, .int p1)]) hx hb dX4_commonDivisor_28 hl (k := 5) rfl rfl (by decide) rfl (fun ls hl => ?_)
          refine lv_goto (tgt := 7) hx hb dX4_commonDivisor_31 (by decide) ?_
          exact ih x3 (jrem x2 x3) (x4 + (1 : Int32)) _ _ _ hV hk hP hD hS (lv_sub hl [4, 5, 2, 1, 0] rfl)
  have hV := vX4_commonDivisor.eq_1 p0 p1
  rw [kX4_commonDivisor] at hk
  refine lv_iload_n hx hb dX4_commonDivisor_0 rfl (lv_at hl 0 rfl) ?_
  refine lv_istore_n (lv' := [(2, .int p0), (0, .int p0), (1, .int p1)]) hx hb dX4_commonDivisor_1 rfl hl (by decide) rfl (fun ls hl => ?_)
  refine lv_iload_n hx hb dX4_commonDivisor_2 rfl (lv_at hl 2 rfl) ?_
  refine lv_istore_n (lv' := [(3, .int p1), (2, .int p0), (0, .int p0), (1, .int p1)]) hx hb dX4_commonDivisor_3 rfl hl (by decide) rfl (fun ls hl => ?_)
  refine lv_iconst (v := (0 : Int32)) hx hb dX4_commonDivisor_4 (by decide) ?_
  refine lv_istore (lv' := [(4, .int (0 : Int32)), (3, .int p1), (2, .int p0), (0, .int p0), (1, .int p1)]) hx hb dX4_commonDivisor_5 hl (by decide) rfl (fun ls hl => ?_)
  exact hc7 1024 p0 p1 (0 : Int32) _ _ _ hV hk hP hD hS (lv_sub hl [3, 4, 2, 1, 0] rfl)
theorem dX4_isSheet_0 : decode cX4_isSheet 0 = .ok (.iload_n 0, 1) := by decide +kernel
theorem dX4_isSheet_1 : decode cX4_isSheet 1 = .ok (.iconst 0, 1) := by decide +kernel
theorem dX4_isSheet_2 : decode cX4_isSheet 2 = .ok (.iconst 3, 1) := by decide +kernel
theorem dX4_isSheet_3 : decode cX4_isSheet 3 = .ok (.invokestatic 50, 3) := by decide +kernel
theorem dX4_isSheet_6 : decode cX4_isSheet 6 = .ok (.ireturn, 1) := by decide +kernel
def rX4_isSheet : Room := { frames := 1, cells := 0, slots := 0, locals := 22 }
def vX4_isSheet (p0 : Int32) : Int32 := (vX4_within p0 (0 : Int32) (3 : Int32))
def kX4_isSheet (p0 : Int32) : Prop := ((vX4_within p0 (0 : Int32) (3 : Int32)) = 0 ∨ (vX4_within p0 (0 : Int32) (3 : Int32)) = 1) ∧ True
set_option maxHeartbeats 4000000 in
set_option maxRecDepth 100000 in
theorem hX4_isSheet (l : Launch) (D : va_G) (K : JK) (G : JG) (p0 : Int32) (hk : kX4_isSheet p0) (sz : Nat) : Met l yX4_isSheet (.code yX4_isSheet cX4_isSheet 1 (some .boolean) :: jGW) rX4_isSheet (jPre D (jT K) G [.int p0] ([] : va_W) sz) (jQi D (jT K) (vX4_isSheet p0) ([] : va_W) (va_A ([] : va_W) sz)) 0 0 (va_A ([] : va_W) sz) := by
  refine jEi (by decide) (Nat.le_of_ble_eq_true rfl) (fun p e s m below meth c A Q ls hat hP hD hS hl hend => ?_)
  obtain ⟨hx, hb, hml, hown, hts, hK, hZ, hA⟩ := hat
  have hl : lv_has ls 1 [(0, .int p0)] := hl
  have hV := vX4_isSheet.eq_1 p0
  rw [kX4_isSheet] at hk
  refine lv_iload_n hx hb dX4_isSheet_0 rfl (lv_at hl 0 rfl) ?_
  refine lv_iconst (v := (0 : Int32)) hx hb dX4_isSheet_1 (by decide) ?_
  refine lv_iconst (v := (3 : Int32)) hx hb dX4_isSheet_2 (by decide) ?_
  refine jci0 (jrunS (As := [.int p0, .int (0 : Int32), .int (3 : Int32)]) (rest := []) hx hb hml hown hts hK hZ hA hP hD hS hl.1 mf_X4_within kl_X4_50 ⟨rfl, rfl, Nat.le_of_ble_eq_true rfl, Nat.le_of_ble_eq_true rfl⟩ ⟨Nat.zero_le _, Nat.zero_le _⟩ [] rfl rfl (hX4_within l D K G p0 (0 : Int32) (3 : Int32) _) rfl rfl (Nat.le_of_ble_eq_true rfl) dX4_isSheet_3) hA hP hD hS [] rfl (fun H locs hP hS => ?_)
  obtain ⟨h2, hk⟩ := hk
  exact hend _ _ _ _ _ hP hD hS hV.symm (jnb h2) dX4_isSheet_6
theorem dX4_power_0 : decode cX4_power 0 = .ok (.lconst 1, 1) := by decide +kernel
theorem dX4_power_1 : decode cX4_power 1 = .ok (.lstore_n 2, 1) := by decide +kernel
theorem dX4_power_2 : decode cX4_power 2 = .ok (.iconst 0, 1) := by decide +kernel
theorem dX4_power_3 : decode cX4_power 3 = .ok (.istore 4, 2) := by decide +kernel
theorem dX4_power_5 : decode cX4_power 5 = .ok (.iload 4, 2) := by decide +kernel
theorem dX4_power_7 : decode cX4_power 7 = .ok (.iload_n 1, 1) := by decide +kernel
theorem dX4_power_8 : decode cX4_power 8 = .ok (.if_icmp .ge 14, 3) := by decide +kernel
theorem dX4_power_11 : decode cX4_power 11 = .ok (.lload_n 2, 1) := by decide +kernel
theorem dX4_power_12 : decode cX4_power 12 = .ok (.iload_n 0, 1) := by decide +kernel
theorem dX4_power_13 : decode cX4_power 13 = .ok (.i2l, 1) := by decide +kernel
theorem dX4_power_14 : decode cX4_power 14 = .ok (.lmul, 1) := by decide +kernel
theorem dX4_power_15 : decode cX4_power 15 = .ok (.lstore_n 2, 1) := by decide +kernel
theorem dX4_power_16 : decode cX4_power 16 = .ok (.iinc 4 1, 3) := by decide +kernel
theorem dX4_power_19 : decode cX4_power 19 = .ok (.goto (-14), 3) := by decide +kernel
theorem dX4_power_22 : decode cX4_power 22 = .ok (.lload_n 2, 1) := by decide +kernel
theorem dX4_power_23 : decode cX4_power 23 = .ok (.lreturn, 1) := by decide +kernel
def rX4_power : Room := { frames := 0, cells := 0, slots := 0, locals := 0 }
def vX4_power_c5 (p0 : Int32) (p1 : Int32) : Nat → Int64 → Int32 → Int64
  | 0, x2, x4 => (0)
  | n + 1, x2, x4 => if (p1 ≤ x4) then x2 else (vX4_power_c5 p0 p1 n (x2 * ((p0).toInt64)) (x4 + (1 : Int32)))
def kX4_power_c5 (p0 : Int32) (p1 : Int32) : Nat → Int64 → Int32 → Prop
  | 0, _, _ => False
  | n + 1, x2, x4 => ((p1 ≤ x4) → True) ∧ (¬ (p1 ≤ x4) → ((kX4_power_c5 p0 p1 n (x2 * ((p0).toInt64)) (x4 + (1 : Int32)))))
def vX4_power (p0 : Int32) (p1 : Int32) : Int64 := (vX4_power_c5 p0 p1 1024 (1 : Int64) (0 : Int32))
def kX4_power (p0 : Int32) (p1 : Int32) : Prop := (kX4_power_c5 p0 p1 1024 (1 : Int64) (0 : Int32))
set_option maxHeartbeats 4000000 in
set_option maxRecDepth 100000 in
theorem hX4_power (l : Launch) (D : va_G) (K : JK) (G : JG) (p0 : Int32) (p1 : Int32) (hk : kX4_power p0 p1) (sz : Nat) : Met l yX4_power (.code yX4_power cX4_power 5 (some .long) :: jGW) rX4_power (jPre D (jT K) G [.int p0, .int p1] ([] : va_W) sz) (jQl D (jT K) (vX4_power p0 p1) ([] : va_W) (va_A ([] : va_W) sz)) 0 0 (va_A ([] : va_W) sz) := by
  refine jEl (by decide) (Nat.le_of_ble_eq_true rfl) (fun p e s m below meth c A Q ls hat hP hD hS hl hend => ?_)
  obtain ⟨hx, hb, hml, hown, hts, hK, hZ, hA⟩ := hat
  have hl : lv_has ls 5 [(0, .int p0), (1, .int p1)] := hl
  have hc5 : ∀ (n : Nat) (x2 : Int64) (x4 : Int32) (H : Heap) (locs : List Loc) (ls : Array Slot), (vX4_power p0 p1) = vX4_power_c5 p0 p1 n x2 x4 → kX4_power_c5 p0 p1 n x2 x4 → va_P D vwCl ([] : va_W) H → va_D A ([] : va_W) → va_S A s.heap H locs → lv_has ls 5 [(0, .int p0), (1, .int p1), (2, .long x2), (4, .int x4)] → W p l e rX4_power s m ([.int p0, .int p1] : List Value).toArray below meth c H locs 0 0 Q (F0 m 5 ls []) := by
    intro n
    induction n with
    | zero =>
      intro x2 x4 H locs ls hV hk hP hD hS hl
      exact False.elim hk
    | succ n ih =>
      intro x2 x4 H locs ls hV hk hP hD hS hl
      rw [vX4_power_c5] at hV
      rw [kX4_power_c5] at hk
      refine lv_iload hx hb dX4_power_5 (lv_at hl 3 rfl) ?_
      refine lv_iload_n hx hb dX4_power_7 rfl (lv_at hl 1 rfl) ?_
      refine lv_icmp_ge (tgt := 22) hx hb dX4_power_8 (by decide) (fun c2 => ?_) (fun c2 => ?_)
      · have hV := hV.trans (if_pos c2)
        have hk := hk.1 c2
        refine lv_lload_n hx hb dX4_power_22 rfl (lv_at hl 2 rfl) ?_
        exact hend _ _ _ _ _ hP hD hS hV.symm dX4_power_23
      · have hV := hV.trans (if_neg c2)
        have hk := hk.2 c2
        refine lv_lload_n hx hb dX4_power_11 rfl (lv_at hl 2 rfl) ?_
        refine lv_iload_n hx hb dX4_power_12 rfl (lv_at hl 0 rfl) ?_
        refine lv_i2l hx hb dX4_power_13 rfl ?_
        refine lv_lmul hx hb dX4_power_14 ?_
        refine lv_lstore_n (lv' := [(2, .long (x2 * ((p0).toInt64))), (0, .int p0), (1, .int p1), (4, .int x4)]) hx hb dX4_power_15 rfl hl (by decide) rfl (fun ls hl => ?_)
        refine lv_iinc (v := (x4 + (1 : Int32))) (lv' := [(4, .int (x4 + (1 : Int32))), (2, .long (x2 * ((p0).toInt64))), (0, .int p0), (1, .int p1)]) hx hb dX4_power_16 hl (k := 3) rfl rfl (by decide) rfl (fun ls hl => ?_)
        refine lv_goto (tgt := 5) hx hb dX4_power_19 (by decide) ?_
        exact ih (x2 * ((p0).toInt64)) (x4 + (1 : Int32)) _ _ _ hV hk hP hD hS (lv_sub hl [2, 3, 1, 0] rfl)
  have hV := vX4_power.eq_1 p0 p1
  rw [kX4_power] at hk
  refine lv_lconst (v := (1 : Int64)) hx hb dX4_power_0 (by decide) ?_
  refine lv_lstore_n (lv' := [(2, .long (1 : Int64)), (0, .int p0), (1, .int p1)]) hx hb dX4_power_1 rfl hl (by decide) rfl (fun ls hl => ?_)
  refine lv_iconst (v := (0 : Int32)) hx hb dX4_power_2 (by decide) ?_
  refine lv_istore (lv' := [(4, .int (0 : Int32)), (2, .long (1 : Int64)), (0, .int p0), (1, .int p1)]) hx hb dX4_power_3 hl (by decide) rfl (fun ls hl => ?_)
  exact hc5 1024 (1 : Int64) (0 : Int32) _ _ _ hV hk hP hD hS (lv_sub hl [2, 3, 1, 0] rfl)
theorem dX5_in_0 : decode cX5_in 0 = .ok (.iload_n 0, 1) := by decide +kernel
theorem dX5_in_1 : decode cX5_in 1 = .ok (.iload_n 1, 1) := by decide +kernel
theorem dX5_in_2 : decode cX5_in 2 = .ok (.if_icmp .lt 12, 3) := by decide +kernel
theorem dX5_in_5 : decode cX5_in 5 = .ok (.iload_n 0, 1) := by decide +kernel
theorem dX5_in_6 : decode cX5_in 6 = .ok (.iload_n 2, 1) := by decide +kernel
theorem dX5_in_7 : decode cX5_in 7 = .ok (.if_icmp .gt 7, 3) := by decide +kernel
theorem dX5_in_10 : decode cX5_in 10 = .ok (.iconst 1, 1) := by decide +kernel
theorem dX5_in_11 : decode cX5_in 11 = .ok (.goto 4, 3) := by decide +kernel
theorem dX5_in_14 : decode cX5_in 14 = .ok (.iconst 0, 1) := by decide +kernel
theorem dX5_in_15 : decode cX5_in 15 = .ok (.ireturn, 1) := by decide +kernel
def rX5_in : Room := { frames := 0, cells := 0, slots := 0, locals := 0 }
def vX5_in (p0 : Int32) (p1 : Int32) (p2 : Int32) : Int32 := if (p0 < p1) then (0 : Int32) else if (p2 < p0) then (0 : Int32) else (1 : Int32)
set_option maxHeartbeats 4000000 in
set_option maxRecDepth 100000 in
theorem hX5_in (l : Launch) (D : va_G) (K : JK) (G : JG) (p0 : Int32) (p1 : Int32) (p2 : Int32) (sz : Nat) : Met l yX5_in (.code yX5_in cX5_in 3 (some .boolean) :: jGW) rX5_in (jPre D (jT K) G [.int p0, .int p1, .int p2] ([] : va_W) sz) (jQi D (jT K) (vX5_in p0 p1 p2) ([] : va_W) (va_A ([] : va_W) sz)) 0 0 (va_A ([] : va_W) sz) := by
  refine jEi (by decide) (Nat.le_of_ble_eq_true rfl) (fun p e s m below meth c A Q ls hat hP hD hS hl hend => ?_)
  obtain ⟨hx, hb, hml, hown, hts, hK, hZ, hA⟩ := hat
  have hl : lv_has ls 3 [(0, .int p0), (1, .int p1), (2, .int p2)] := hl
  have hV := vX5_in.eq_1 p0 p1 p2
  refine lv_iload_n hx hb dX5_in_0 rfl (lv_at hl 0 rfl) ?_
  refine lv_iload_n hx hb dX5_in_1 rfl (lv_at hl 1 rfl) ?_
  refine lv_icmp_lt (tgt := 14) hx hb dX5_in_2 (by decide) (fun c3 => ?_) (fun c3 => ?_)
  · have hV := hV.trans (if_pos c3)
    refine lv_iconst (v := (0 : Int32)) hx hb dX5_in_14 (by decide) ?_
    exact hend _ _ _ _ _ hP hD hS hV.symm rfl dX5_in_15
  · have hV := hV.trans (if_neg c3)
    refine lv_iload_n hx hb dX5_in_5 rfl (lv_at hl 0 rfl) ?_
    refine lv_iload_n hx hb dX5_in_6 rfl (lv_at hl 2 rfl) ?_
    refine lv_icmp_gt (tgt := 14) hx hb dX5_in_7 (by decide) (fun c4 => ?_) (fun c4 => ?_)
    · have hV := hV.trans (if_pos c4)
      refine lv_iconst (v := (0 : Int32)) hx hb dX5_in_14 (by decide) ?_
      exact hend _ _ _ _ _ hP hD hS hV.symm rfl dX5_in_15
    · have hV := hV.trans (if_neg c4)
      refine lv_iconst (v := (1 : Int32)) hx hb dX5_in_10 (by decide) ?_
      refine lv_goto (tgt := 15) hx hb dX5_in_11 (by decide) ?_
      exact hend _ _ _ _ _ hP hD hS hV.symm rfl dX5_in_15
theorem dX5_held_0 : decode cX5_held 0 = .ok (.iload_n 0, 1) := by decide +kernel
theorem dX5_held_1 : decode cX5_held 1 = .ok (.iload_n 1, 1) := by decide +kernel
theorem dX5_held_2 : decode cX5_held 2 = .ok (.if_icmp .ge 7, 3) := by decide +kernel
theorem dX5_held_5 : decode cX5_held 5 = .ok (.iload_n 1, 1) := by decide +kernel
theorem dX5_held_6 : decode cX5_held 6 = .ok (.goto 13, 3) := by decide +kernel
theorem dX5_held_9 : decode cX5_held 9 = .ok (.iload_n 0, 1) := by decide +kernel
theorem dX5_held_10 : decode cX5_held 10 = .ok (.iload_n 2, 1) := by decide +kernel
theorem dX5_held_11 : decode cX5_held 11 = .ok (.if_icmp .le 7, 3) := by decide +kernel
theorem dX5_held_14 : decode cX5_held 14 = .ok (.iload_n 2, 1) := by decide +kernel
theorem dX5_held_15 : decode cX5_held 15 = .ok (.goto 4, 3) := by decide +kernel
theorem dX5_held_18 : decode cX5_held 18 = .ok (.iload_n 0, 1) := by decide +kernel
theorem dX5_held_19 : decode cX5_held 19 = .ok (.ireturn, 1) := by decide +kernel
def rX5_held : Room := { frames := 0, cells := 0, slots := 0, locals := 0 }
def vX5_held (p0 : Int32) (p1 : Int32) (p2 : Int32) : Int32 := if (p1 ≤ p0) then (if (p0 ≤ p2) then p0 else p2) else p1
set_option maxHeartbeats 4000000 in
set_option maxRecDepth 100000 in
theorem hX5_held (l : Launch) (D : va_G) (K : JK) (G : JG) (p0 : Int32) (p1 : Int32) (p2 : Int32) (sz : Nat) : Met l yX5_held (.code yX5_held cX5_held 3 (some .int) :: jGW) rX5_held (jPre D (jT K) G [.int p0, .int p1, .int p2] ([] : va_W) sz) (jQi D (jT K) (vX5_held p0 p1 p2) ([] : va_W) (va_A ([] : va_W) sz)) 0 0 (va_A ([] : va_W) sz) := by
  refine jEi (by decide) (Nat.le_of_ble_eq_true rfl) (fun p e s m below meth c A Q ls hat hP hD hS hl hend => ?_)
  obtain ⟨hx, hb, hml, hown, hts, hK, hZ, hA⟩ := hat
  have hl : lv_has ls 3 [(0, .int p0), (1, .int p1), (2, .int p2)] := hl
  have hV := vX5_held.eq_1 p0 p1 p2
  refine lv_iload_n hx hb dX5_held_0 rfl (lv_at hl 0 rfl) ?_
  refine lv_iload_n hx hb dX5_held_1 rfl (lv_at hl 1 rfl) ?_
  refine lv_icmp_ge (tgt := 9) hx hb dX5_held_2 (by decide) (fun c3 => ?_) (fun c3 => ?_)
  · have hV := hV.trans (if_pos c3)
    refine lv_iload_n hx hb dX5_held_9 rfl (lv_at hl 0 rfl) ?_
    refine lv_iload_n hx hb dX5_held_10 rfl (lv_at hl 2 rfl) ?_
    refine lv_icmp_le (tgt := 18) hx hb dX5_held_11 (by decide) (fun c4 => ?_) (fun c4 => ?_)
    · have hV := hV.trans (if_pos c4)
      refine lv_iload_n hx hb dX5_held_18 rfl (lv_at hl 0 rfl) ?_
      exact hend _ _ _ _ _ hP hD hS hV.symm rfl dX5_held_19
    · have hV := hV.trans (if_neg c4)
      refine lv_iload_n hx hb dX5_held_14 rfl (lv_at hl 2 rfl) ?_
      refine lv_goto (tgt := 19) hx hb dX5_held_15 (by decide) ?_
      exact hend _ _ _ _ _ hP hD hS hV.symm rfl dX5_held_19
  · have hV := hV.trans (if_neg c3)
    refine lv_iload_n hx hb dX5_held_5 rfl (lv_at hl 1 rfl) ?_
    refine lv_goto (tgt := 19) hx hb dX5_held_6 (by decide) ?_
    exact hend _ _ _ _ _ hP hD hS hV.symm rfl dX5_held_19
theorem dX5_isUnder_0 : decode cX5_isUnder 0 = .ok (.iload_n 0, 1) := by decide +kernel
theorem dX5_isUnder_1 : decode cX5_isUnder 1 = .ok (.iconst 3, 1) := by decide +kernel
theorem dX5_isUnder_2 : decode cX5_isUnder 2 = .ok (.if_icmp .eq 8, 3) := by decide +kernel
theorem dX5_isUnder_5 : decode cX5_isUnder 5 = .ok (.iload_n 0, 1) := by decide +kernel
theorem dX5_isUnder_6 : decode cX5_isUnder 6 = .ok (.iconst 4, 1) := by decide +kernel
theorem dX5_isUnder_7 : decode cX5_isUnder 7 = .ok (.if_icmp .ne 7, 3) := by decide +kernel
theorem dX5_isUnder_10 : decode cX5_isUnder 10 = .ok (.iconst 1, 1) := by decide +kernel
theorem dX5_isUnder_11 : decode cX5_isUnder 11 = .ok (.goto 4, 3) := by decide +kernel
theorem dX5_isUnder_14 : decode cX5_isUnder 14 = .ok (.iconst 0, 1) := by decide +kernel
theorem dX5_isUnder_15 : decode cX5_isUnder 15 = .ok (.istore_n 2, 1) := by decide +kernel
theorem dX5_isUnder_16 : decode cX5_isUnder 16 = .ok (.iload_n 1, 1) := by decide +kernel
theorem dX5_isUnder_17 : decode cX5_isUnder 17 = .ok (.ifCond .eq 38, 3) := by decide +kernel
theorem dX5_isUnder_20 : decode cX5_isUnder 20 = .ok (.iload_n 1, 1) := by decide +kernel
theorem dX5_isUnder_21 : decode cX5_isUnder 21 = .ok (.iload_n 0, 1) := by decide +kernel
theorem dX5_isUnder_22 : decode cX5_isUnder 22 = .ok (.if_icmp .eq 33, 3) := by decide +kernel
theorem dX5_isUnder_25 : decode cX5_isUnder 25 = .ok (.iload_n 1, 1) := by decide +kernel
theorem dX5_isUnder_26 : decode cX5_isUnder 26 = .ok (.iconst 2, 1) := by decide +kernel
theorem dX5_isUnder_27 : decode cX5_isUnder 27 = .ok (.if_icmp .ne 7, 3) := by decide +kernel
theorem dX5_isUnder_30 : decode cX5_isUnder 30 = .ok (.iload_n 2, 1) := by decide +kernel
theorem dX5_isUnder_31 : decode cX5_isUnder 31 = .ok (.ifCond .ne 24, 3) := by decide +kernel
theorem dX5_isUnder_34 : decode cX5_isUnder 34 = .ok (.iload_n 1, 1) := by decide +kernel
theorem dX5_isUnder_35 : decode cX5_isUnder 35 = .ok (.iconst 3, 1) := by decide +kernel
theorem dX5_isUnder_36 : decode cX5_isUnder 36 = .ok (.if_icmp .ne 8, 3) := by decide +kernel
theorem dX5_isUnder_39 : decode cX5_isUnder 39 = .ok (.iload_n 0, 1) := by decide +kernel
theorem dX5_isUnder_40 : decode cX5_isUnder 40 = .ok (.iconst 4, 1) := by decide +kernel
theorem dX5_isUnder_41 : decode cX5_isUnder 41 = .ok (.if_icmp .eq 14, 3) := by decide +kernel
theorem dX5_isUnder_44 : decode cX5_isUnder 44 = .ok (.iload_n 1, 1) := by decide +kernel
theorem dX5_isUnder_45 : decode cX5_isUnder 45 = .ok (.iconst 1, 1) := by decide +kernel
theorem dX5_isUnder_46 : decode cX5_isUnder 46 = .ok (.if_icmp .ne 13, 3) := by decide +kernel
theorem dX5_isUnder_49 : decode cX5_isUnder 49 = .ok (.iload_n 0, 1) := by decide +kernel
theorem dX5_isUnder_50 : decode cX5_isUnder 50 = .ok (.bipush 6, 2) := by decide +kernel
theorem dX5_isUnder_52 : decode cX5_isUnder 52 = .ok (.if_icmp .ne 7, 3) := by decide +kernel
theorem dX5_isUnder_55 : decode cX5_isUnder 55 = .ok (.iconst 1, 1) := by decide +kernel
theorem dX5_isUnder_56 : decode cX5_isUnder 56 = .ok (.goto 4, 3) := by decide +kernel
theorem dX5_isUnder_59 : decode cX5_isUnder 59 = .ok (.iconst 0, 1) := by decide +kernel
theorem dX5_isUnder_60 : decode cX5_isUnder 60 = .ok (.ireturn, 1) := by decide +kernel
def rX5_isUnder : Room := { frames := 0, cells := 0, slots := 0, locals := 0 }
def vX5_isUnder_c44 (p0 : Int32) (p1 : Int32) : Int32 := if (p1 = (1 : Int32)) then (if (p0 = (6 : Int32)) then (1 : Int32) else (0 : Int32)) else (0 : Int32)
def vX5_isUnder_c34 (p0 : Int32) (p1 : Int32) : Int32 := if (p1 = (3 : Int32)) then (if (p0 = (4 : Int32)) then (1 : Int32) else (vX5_isUnder_c44 p0 p1)) else (vX5_isUnder_c44 p0 p1)
def vX5_isUnder_c15 (p0 : Int32) (p1 : Int32) (y0 : Int32) : Int32 := if (p1 = 0) then (1 : Int32) else if (p1 = p0) then (1 : Int32) else if (p1 = (2 : Int32)) then (if (y0 = 0) then (vX5_isUnder_c34 p0 p1) else (1 : Int32)) else (vX5_isUnder_c34 p0 p1)
def vX5_isUnder_c10 (p0 : Int32) (p1 : Int32) : Int32 := (vX5_isUnder_c15 p0 p1 (1 : Int32))
def vX5_isUnder (p0 : Int32) (p1 : Int32) : Int32 := if (p0 = (3 : Int32)) then (vX5_isUnder_c10 p0 p1) else if (p0 = (4 : Int32)) then (vX5_isUnder_c10 p0 p1) else (vX5_isUnder_c15 p0 p1 (0 : Int32))
set_option maxHeartbeats 4000000 in
set_option maxRecDepth 100000 in
theorem hX5_isUnder (l : Launch) (D : va_G) (K : JK) (G : JG) (p0 : Int32) (p1 : Int32) (sz : Nat) : Met l yX5_isUnder (.code yX5_isUnder cX5_isUnder 3 (some .boolean) :: jGW) rX5_isUnder (jPre D (jT K) G [.int p0, .int p1] ([] : va_W) sz) (jQi D (jT K) (vX5_isUnder p0 p1) ([] : va_W) (va_A ([] : va_W) sz)) 0 0 (va_A ([] : va_W) sz) := by
  refine jEi (by decide) (Nat.le_of_ble_eq_true rfl) (fun p e s m below meth c A Q ls hat hP hD hS hl hend => ?_)
  obtain ⟨hx, hb, hml, hown, hts, hK, hZ, hA⟩ := hat
  have hl : lv_has ls 3 [(0, .int p0), (1, .int p1)] := hl
  have hc44 : ∀ (H : Heap) (locs : List Loc) (ls : Array Slot), (vX5_isUnder p0 p1) = vX5_isUnder_c44 p0 p1 → va_P D vwCl ([] : va_W) H → va_D A ([] : va_W) → va_S A s.heap H locs → lv_has ls 3 [(0, .int p0), (1, .int p1)] → W p l e rX5_isUnder s m ([.int p0, .int p1] : List Value).toArray below meth c H locs 0 0 Q (F0 m 44 ls []) := by
    intro H locs ls hV hP hD hS hl
    rw [vX5_isUnder_c44] at hV
    refine lv_iload_n hx hb dX5_isUnder_44 rfl (lv_at hl 1 rfl) ?_
    refine lv_iconst (v := (1 : Int32)) hx hb dX5_isUnder_45 (by decide) ?_
    refine lv_icmp_ne (tgt := 59) hx hb dX5_isUnder_46 (by decide) (fun c11 => ?_) (fun c11 => ?_)
    · have hV := hV.trans (if_neg c11)
      refine lv_iconst (v := (0 : Int32)) hx hb dX5_isUnder_59 (by decide) ?_
      exact hend _ _ _ _ _ hP hD hS hV.symm rfl dX5_isUnder_60
    · have hV := hV.trans (if_pos c11)
      refine lv_iload_n hx hb dX5_isUnder_49 rfl (lv_at hl 0 rfl) ?_
      refine lv_bipush (v := (6 : Int32)) hx hb dX5_isUnder_50 (by decide) ?_
      refine lv_icmp_ne (tgt := 59) hx hb dX5_isUnder_52 (by decide) (fun c12 => ?_) (fun c12 => ?_)
      · have hV := hV.trans (if_neg c12)
        refine lv_iconst (v := (0 : Int32)) hx hb dX5_isUnder_59 (by decide) ?_
        exact hend _ _ _ _ _ hP hD hS hV.symm rfl dX5_isUnder_60
      · have hV := hV.trans (if_pos c12)
        refine lv_iconst (v := (1 : Int32)) hx hb dX5_isUnder_55 (by decide) ?_
        refine lv_goto (tgt := 60) hx hb dX5_isUnder_56 (by decide) ?_
        exact hend _ _ _ _ _ hP hD hS hV.symm rfl dX5_isUnder_60
  have hc34 : ∀ (H : Heap) (locs : List Loc) (ls : Array Slot), (vX5_isUnder p0 p1) = vX5_isUnder_c34 p0 p1 → va_P D vwCl ([] : va_W) H → va_D A ([] : va_W) → va_S A s.heap H locs → lv_has ls 3 [(0, .int p0), (1, .int p1)] → W p l e rX5_isUnder s m ([.int p0, .int p1] : List Value).toArray below meth c H locs 0 0 Q (F0 m 34 ls []) := by
    intro H locs ls hV hP hD hS hl
    rw [vX5_isUnder_c34] at hV
    refine lv_iload_n hx hb dX5_isUnder_34 rfl (lv_at hl 1 rfl) ?_
    refine lv_iconst (v := (3 : Int32)) hx hb dX5_isUnder_35 (by decide) ?_
    refine lv_icmp_ne (tgt := 44) hx hb dX5_isUnder_36 (by decide) (fun c13 => ?_) (fun c13 => ?_)
    · have hV := hV.trans (if_neg c13)
      exact hc44 _ _ _ hV hP hD hS (lv_sub hl [0, 1] rfl)
    · have hV := hV.trans (if_pos c13)
      refine lv_iload_n hx hb dX5_isUnder_39 rfl (lv_at hl 0 rfl) ?_
      refine lv_iconst (v := (4 : Int32)) hx hb dX5_isUnder_40 (by decide) ?_
      refine lv_icmp_eq (tgt := 55) hx hb dX5_isUnder_41 (by decide) (fun c14 => ?_) (fun c14 => ?_)
      · have hV := hV.trans (if_pos c14)
        refine lv_iconst (v := (1 : Int32)) hx hb dX5_isUnder_55 (by decide) ?_
        refine lv_goto (tgt := 60) hx hb dX5_isUnder_56 (by decide) ?_
        exact hend _ _ _ _ _ hP hD hS hV.symm rfl dX5_isUnder_60
      · have hV := hV.trans (if_neg c14)
        exact hc44 _ _ _ hV hP hD hS (lv_sub hl [0, 1] rfl)
  have hc15 : ∀ (y0 : Int32) (H : Heap) (locs : List Loc) (ls : Array Slot), (vX5_isUnder p0 p1) = vX5_isUnder_c15 p0 p1 y0 → va_P D vwCl ([] : va_W) H → va_D A ([] : va_W) → va_S A s.heap H locs → lv_has ls 3 [(0, .int p0), (1, .int p1)] → W p l e rX5_isUnder s m ([.int p0, .int p1] : List Value).toArray below meth c H locs 0 0 Q (F0 m 15 ls [.int y0]) := by
    intro y0 H locs ls hV hP hD hS hl
    rw [vX5_isUnder_c15] at hV
    refine lv_istore_n (lv' := [(2, .int y0), (0, .int p0), (1, .int p1)]) hx hb dX5_isUnder_15 rfl hl (by decide) rfl (fun ls hl => ?_)
    refine lv_iload_n hx hb dX5_isUnder_16 rfl (lv_at hl 2 rfl) ?_
    refine lv_if_eq (tgt := 55) hx hb dX5_isUnder_17 (by decide) (fun c15 => ?_) (fun c15 => ?_)
    · have hV := hV.trans (if_pos c15)
      refine lv_iconst (v := (1 : Int32)) hx hb dX5_isUnder_55 (by decide) ?_
      refine lv_goto (tgt := 60) hx hb dX5_isUnder_56 (by decide) ?_
      exact hend _ _ _ _ _ hP hD hS hV.symm rfl dX5_isUnder_60
    · have hV := hV.trans (if_neg c15)
      refine lv_iload_n hx hb dX5_isUnder_20 rfl (lv_at hl 2 rfl) ?_
      refine lv_iload_n hx hb dX5_isUnder_21 rfl (lv_at hl 1 rfl) ?_
      refine lv_icmp_eq (tgt := 55) hx hb dX5_isUnder_22 (by decide) (fun c16 => ?_) (fun c16 => ?_)
      · have hV := hV.trans (if_pos c16)
        refine lv_iconst (v := (1 : Int32)) hx hb dX5_isUnder_55 (by decide) ?_
        refine lv_goto (tgt := 60) hx hb dX5_isUnder_56 (by decide) ?_
        exact hend _ _ _ _ _ hP hD hS hV.symm rfl dX5_isUnder_60
      · have hV := hV.trans (if_neg c16)
        refine lv_iload_n hx hb dX5_isUnder_25 rfl (lv_at hl 2 rfl) ?_
        refine lv_iconst (v := (2 : Int32)) hx hb dX5_isUnder_26 (by decide) ?_
        refine lv_icmp_ne (tgt := 34) hx hb dX5_isUnder_27 (by decide) (fun c17 => ?_) (fun c17 => ?_)
        · have hV := hV.trans (if_neg c17)
          exact hc34 _ _ _ hV hP hD hS (lv_sub hl [1, 2] rfl)
        · have hV := hV.trans (if_pos c17)
          refine lv_iload_n hx hb dX5_isUnder_30 rfl (lv_at hl 0 rfl) ?_
          refine lv_if_ne (tgt := 55) hx hb dX5_isUnder_31 (by decide) (fun c18 => ?_) (fun c18 => ?_)
          · have hV := hV.trans (if_neg c18)
            refine lv_iconst (v := (1 : Int32)) hx hb dX5_isUnder_55 (by decide) ?_
            refine lv_goto (tgt := 60) hx hb dX5_isUnder_56 (by decide) ?_
            exact hend _ _ _ _ _ hP hD hS hV.symm rfl dX5_isUnder_60
          · have hV := hV.trans (if_pos c18)
            exact hc34 _ _ _ hV hP hD hS (lv_sub hl [1, 2] rfl)
  have hc10 : ∀ (H : Heap) (locs : List Loc) (ls : Array Slot), (vX5_isUnder p0 p1) = vX5_isUnder_c10 p0 p1 → va_P D vwCl ([] : va_W) H → va_D A ([] : va_W) → va_S A s.heap H locs → lv_has ls 3 [(0, .int p0), (1, .int p1)] → W p l e rX5_isUnder s m ([.int p0, .int p1] : List Value).toArray below meth c H locs 0 0 Q (F0 m 10 ls []) := by
    intro H locs ls hV hP hD hS hl
    rw [vX5_isUnder_c10] at hV
    refine lv_iconst (v := (1 : Int32)) hx hb dX5_isUnder_10 (by decide) ?_
    refine lv_goto (tgt := 15) hx hb dX5_isUnder_11 (by decide) ?_
    exact hc15 (1 : Int32) _ _ _ hV hP hD hS (lv_sub hl [0, 1] rfl)
  have hV := vX5_isUnder.eq_1 p0 p1
  refine lv_iload_n hx hb dX5_isUnder_0 rfl (lv_at hl 0 rfl) ?_
  refine lv_iconst (v := (3 : Int32)) hx hb dX5_isUnder_1 (by decide) ?_
  refine lv_icmp_eq (tgt := 10) hx hb dX5_isUnder_2 (by decide) (fun c19 => ?_) (fun c19 => ?_)
  · have hV := hV.trans (if_pos c19)
    exact hc10 _ _ _ hV hP hD hS (lv_sub hl [0, 1] rfl)
  · have hV := hV.trans (if_neg c19)
    refine lv_iload_n hx hb dX5_isUnder_5 rfl (lv_at hl 0 rfl) ?_
    refine lv_iconst (v := (4 : Int32)) hx hb dX5_isUnder_6 (by decide) ?_
    refine lv_icmp_ne (tgt := 14) hx hb dX5_isUnder_7 (by decide) (fun c20 => ?_) (fun c20 => ?_)
    · have hV := hV.trans (if_neg c20)
      refine lv_iconst (v := (0 : Int32)) hx hb dX5_isUnder_14 (by decide) ?_
      exact hc15 (0 : Int32) _ _ _ hV hP hD hS (lv_sub hl [0, 1] rfl)
    · have hV := hV.trans (if_pos c20)
      exact hc10 _ _ _ hV hP hD hS (lv_sub hl [0, 1] rfl)
theorem dX5_bits_0 : decode cX5_bits 0 = .ok (.iconst 0, 1) := by decide +kernel
theorem dX5_bits_1 : decode cX5_bits 1 = .ok (.istore_n 1, 1) := by decide +kernel
theorem dX5_bits_2 : decode cX5_bits 2 = .ok (.iload_n 0, 1) := by decide +kernel
theorem dX5_bits_3 : decode cX5_bits 3 = .ok (.istore_n 2, 1) := by decide +kernel
theorem dX5_bits_4 : decode cX5_bits 4 = .ok (.iload_n 2, 1) := by decide +kernel
theorem dX5_bits_5 : decode cX5_bits 5 = .ok (.ifCond .eq 15, 3) := by decide +kernel
theorem dX5_bits_8 : decode cX5_bits 8 = .ok (.iinc 1 1, 3) := by decide +kernel
theorem dX5_bits_11 : decode cX5_bits 11 = .ok (.iload_n 2, 1) := by decide +kernel
theorem dX5_bits_12 : decode cX5_bits 12 = .ok (.iload_n 2, 1) := by decide +kernel
theorem dX5_bits_13 : decode cX5_bits 13 = .ok (.iconst 1, 1) := by decide +kernel
theorem dX5_bits_14 : decode cX5_bits 14 = .ok (.isub, 1) := by decide +kernel
theorem dX5_bits_15 : decode cX5_bits 15 = .ok (.iand, 1) := by decide +kernel
theorem dX5_bits_16 : decode cX5_bits 16 = .ok (.istore_n 2, 1) := by decide +kernel
theorem dX5_bits_17 : decode cX5_bits 17 = .ok (.goto (-13), 3) := by decide +kernel
theorem dX5_bits_20 : decode cX5_bits 20 = .ok (.iload_n 1, 1) := by decide +kernel
theorem dX5_bits_21 : decode cX5_bits 21 = .ok (.ireturn, 1) := by decide +kernel
def rX5_bits : Room := { frames := 0, cells := 0, slots := 0, locals := 0 }
def vX5_bits_c4 (p0 : Int32) : Nat → Int32 → Int32 → Int32
  | 0, x1, x2 => (0)
  | n + 1, x1, x2 => if (x2 = 0) then x1 else (vX5_bits_c4 p0 n (x1 + (1 : Int32)) (x2 &&& (x2 - (1 : Int32))))
def kX5_bits_c4 (p0 : Int32) : Nat → Int32 → Int32 → Prop
  | 0, _, _ => False
  | n + 1, x1, x2 => ((x2 = 0) → True) ∧ (¬ (x2 = 0) → ((kX5_bits_c4 p0 n (x1 + (1 : Int32)) (x2 &&& (x2 - (1 : Int32))))))
def vX5_bits (p0 : Int32) : Int32 := (vX5_bits_c4 p0 1024 (0 : Int32) p0)
def kX5_bits (p0 : Int32) : Prop := (kX5_bits_c4 p0 1024 (0 : Int32) p0)
set_option maxHeartbeats 4000000 in
set_option maxRecDepth 100000 in
theorem hX5_bits (l : Launch) (D : va_G) (K : JK) (G : JG) (p0 : Int32) (hk : kX5_bits p0) (sz : Nat) : Met l yX5_bits (.code yX5_bits cX5_bits 3 (some .int) :: jGW) rX5_bits (jPre D (jT K) G [.int p0] ([] : va_W) sz) (jQi D (jT K) (vX5_bits p0) ([] : va_W) (va_A ([] : va_W) sz)) 0 0 (va_A ([] : va_W) sz) := by
  refine jEi (by decide) (Nat.le_of_ble_eq_true rfl) (fun p e s m below meth c A Q ls hat hP hD hS hl hend => ?_)
  obtain ⟨hx, hb, hml, hown, hts, hK, hZ, hA⟩ := hat
  have hl : lv_has ls 3 [(0, .int p0)] := hl
  have hc4 : ∀ (n : Nat) (x1 : Int32) (x2 : Int32) (H : Heap) (locs : List Loc) (ls : Array Slot), (vX5_bits p0) = vX5_bits_c4 p0 n x1 x2 → kX5_bits_c4 p0 n x1 x2 → va_P D vwCl ([] : va_W) H → va_D A ([] : va_W) → va_S A s.heap H locs → lv_has ls 3 [(0, .int p0), (1, .int x1), (2, .int x2)] → W p l e rX5_bits s m ([.int p0] : List Value).toArray below meth c H locs 0 0 Q (F0 m 4 ls []) := by
    intro n
    induction n with
    | zero =>
      intro x1 x2 H locs ls hV hk hP hD hS hl
      exact False.elim hk
    | succ n ih =>
      intro x1 x2 H locs ls hV hk hP hD hS hl
      rw [vX5_bits_c4] at hV
      rw [kX5_bits_c4] at hk
      refine lv_iload_n hx hb dX5_bits_4 rfl (lv_at hl 2 rfl) ?_
      refine lv_if_eq (tgt := 20) hx hb dX5_bits_5 (by decide) (fun c2 => ?_) (fun c2 => ?_)
      · have hV := hV.trans (if_pos c2)
        have hk := hk.1 c2
        refine lv_iload_n hx hb dX5_bits_20 rfl (lv_at hl 1 rfl) ?_
        exact hend _ _ _ _ _ hP hD hS hV.symm rfl dX5_bits_21
      · have hV := hV.trans (if_neg c2)
        have hk := hk.2 c2
        refine lv_iinc (v := (x1 + (1 : Int32))) (lv' := [(1, .int (x1 + (1 : Int32))), (0, .int p0), (2, .int x2)]) hx hb dX5_bits_8 hl (k := 1) rfl rfl (by decide) rfl (fun ls hl => ?_)
        refine lv_iload_n hx hb dX5_bits_11 rfl (lv_at hl 2 rfl) ?_
        refine lv_iload_n hx hb dX5_bits_12 rfl (lv_at hl 2 rfl) ?_
        refine lv_iconst (v := (1 : Int32)) hx hb dX5_bits_13 (by decide) ?_
        refine lv_isub hx hb dX5_bits_14 ?_
        refine lv_iand hx hb dX5_bits_15 ?_
        refine lv_istore_n (lv' := [(2, .int (x2 &&& (x2 - (1 : Int32)))), (1, .int (x1 + (1 : Int32))), (0, .int p0)]) hx hb dX5_bits_16 rfl hl (by decide) rfl (fun ls hl => ?_)
        refine lv_goto (tgt := 4) hx hb dX5_bits_17 (by decide) ?_
        exact ih (x1 + (1 : Int32)) (x2 &&& (x2 - (1 : Int32))) _ _ _ hV hk hP hD hS (lv_sub hl [2, 1, 0] rfl)
  have hV := vX5_bits.eq_1 p0
  rw [kX5_bits] at hk
  refine lv_iconst (v := (0 : Int32)) hx hb dX5_bits_0 (by decide) ?_
  refine lv_istore_n (lv' := [(1, .int (0 : Int32)), (0, .int p0)]) hx hb dX5_bits_1 rfl hl (by decide) rfl (fun ls hl => ?_)
  refine lv_iload_n hx hb dX5_bits_2 rfl (lv_at hl 1 rfl) ?_
  refine lv_istore_n (lv' := [(2, .int p0), (1, .int (0 : Int32)), (0, .int p0)]) hx hb dX5_bits_3 rfl hl (by decide) rfl (fun ls hl => ?_)
  exact hc4 1024 (0 : Int32) p0 _ _ _ hV hk hP hD hS (lv_sub hl [2, 1, 0] rfl)
theorem dX5_isPlace_0 : decode cX5_isPlace 0 = .ok (.iload_n 0, 1) := by decide +kernel
theorem dX5_isPlace_1 : decode cX5_isPlace 1 = .ok (.iconst 0, 1) := by decide +kernel
theorem dX5_isPlace_2 : decode cX5_isPlace 2 = .ok (.iconst 5, 1) := by decide +kernel
theorem dX5_isPlace_3 : decode cX5_isPlace 3 = .ok (.invokestatic 40, 3) := by decide +kernel
theorem dX5_isPlace_6 : decode cX5_isPlace 6 = .ok (.ireturn, 1) := by decide +kernel
def rX5_isPlace : Room := { frames := 1, cells := 0, slots := 0, locals := 22 }
def vX5_isPlace (p0 : Int32) : Int32 := (vX5_in p0 (0 : Int32) (5 : Int32))
def kX5_isPlace (p0 : Int32) : Prop := ((vX5_in p0 (0 : Int32) (5 : Int32)) = 0 ∨ (vX5_in p0 (0 : Int32) (5 : Int32)) = 1) ∧ True
set_option maxHeartbeats 4000000 in
set_option maxRecDepth 100000 in
theorem hX5_isPlace (l : Launch) (D : va_G) (K : JK) (G : JG) (p0 : Int32) (hk : kX5_isPlace p0) (sz : Nat) : Met l yX5_isPlace (.code yX5_isPlace cX5_isPlace 1 (some .boolean) :: jGW) rX5_isPlace (jPre D (jT K) G [.int p0] ([] : va_W) sz) (jQi D (jT K) (vX5_isPlace p0) ([] : va_W) (va_A ([] : va_W) sz)) 0 0 (va_A ([] : va_W) sz) := by
  refine jEi (by decide) (Nat.le_of_ble_eq_true rfl) (fun p e s m below meth c A Q ls hat hP hD hS hl hend => ?_)
  obtain ⟨hx, hb, hml, hown, hts, hK, hZ, hA⟩ := hat
  have hl : lv_has ls 1 [(0, .int p0)] := hl
  have hV := vX5_isPlace.eq_1 p0
  rw [kX5_isPlace] at hk
  refine lv_iload_n hx hb dX5_isPlace_0 rfl (lv_at hl 0 rfl) ?_
  refine lv_iconst (v := (0 : Int32)) hx hb dX5_isPlace_1 (by decide) ?_
  refine lv_iconst (v := (5 : Int32)) hx hb dX5_isPlace_2 (by decide) ?_
  refine jci0 (jrunS (As := [.int p0, .int (0 : Int32), .int (5 : Int32)]) (rest := []) hx hb hml hown hts hK hZ hA hP hD hS hl.1 mf_X5_in kl_X5_40 ⟨rfl, rfl, Nat.le_of_ble_eq_true rfl, Nat.le_of_ble_eq_true rfl⟩ ⟨Nat.zero_le _, Nat.zero_le _⟩ [] rfl rfl (hX5_in l D K G p0 (0 : Int32) (5 : Int32) _) rfl rfl (Nat.le_of_ble_eq_true rfl) dX5_isPlace_3) hA hP hD hS [] rfl (fun H locs hP hS => ?_)
  obtain ⟨h2, hk⟩ := hk
  exact hend _ _ _ _ _ hP hD hS hV.symm (jnb h2) dX5_isPlace_6
theorem dX5_mostOf_0 : decode cX5_mostOf 0 = .ok (.iload_n 0, 1) := by decide +kernel
theorem dX5_mostOf_1 : decode cX5_mostOf 1 = .ok (.tableswitch 49 0 5 #[39, 49, 45, 42, 42, 45], 39) := by decide +kernel
theorem dX5_mostOf_40 : decode cX5_mostOf 40 = .ok (.bipush 6, 2) := by decide +kernel
theorem dX5_mostOf_42 : decode cX5_mostOf 42 = .ok (.ireturn, 1) := by decide +kernel
theorem dX5_mostOf_43 : decode cX5_mostOf 43 = .ok (.bipush 99, 2) := by decide +kernel
theorem dX5_mostOf_45 : decode cX5_mostOf 45 = .ok (.ireturn, 1) := by decide +kernel
theorem dX5_mostOf_46 : decode cX5_mostOf 46 = .ok (.sipush 9999, 3) := by decide +kernel
theorem dX5_mostOf_49 : decode cX5_mostOf 49 = .ok (.ireturn, 1) := by decide +kernel
theorem dX5_mostOf_50 : decode cX5_mostOf 50 = .ok (.sipush 999, 3) := by decide +kernel
theorem dX5_mostOf_53 : decode cX5_mostOf 53 = .ok (.ireturn, 1) := by decide +kernel
def rX5_mostOf : Room := { frames := 0, cells := 0, slots := 0, locals := 0 }
def vX5_mostOf (p0 : Int32) : Int32 := if (p0 = (0 : Int32)) then (6 : Int32) else if (p0 = (1 : Int32)) then (999 : Int32) else if (p0 = (2 : Int32)) then (9999 : Int32) else if (p0 = (3 : Int32)) then (99 : Int32) else if (p0 = (4 : Int32)) then (99 : Int32) else if (p0 = (5 : Int32)) then (9999 : Int32) else (999 : Int32)
set_option maxHeartbeats 4000000 in
set_option maxRecDepth 100000 in
theorem hX5_mostOf (l : Launch) (D : va_G) (K : JK) (G : JG) (p0 : Int32) (sz : Nat) : Met l yX5_mostOf (.code yX5_mostOf cX5_mostOf 1 (some .int) :: jGW) rX5_mostOf (jPre D (jT K) G [.int p0] ([] : va_W) sz) (jQi D (jT K) (vX5_mostOf p0) ([] : va_W) (va_A ([] : va_W) sz)) 0 0 (va_A ([] : va_W) sz) := by
  refine jEi (by decide) (Nat.le_of_ble_eq_true rfl) (fun p e s m below meth c A Q ls hat hP hD hS hl hend => ?_)
  obtain ⟨hx, hb, hml, hown, hts, hK, hZ, hA⟩ := hat
  have hl : lv_has ls 1 [(0, .int p0)] := hl
  have hV := vX5_mostOf.eq_1 p0
  refine lv_iload_n hx hb dX5_mostOf_0 rfl (lv_at hl 0 rfl) ?_
  by_cases c7 : (p0 = (0 : Int32))
  · have hV := hV.trans (if_pos c7)
    refine lv_tableIn (off := 39) (tgt := 40) hx hb dX5_mostOf_1 (by rw [c7]; decide) (by rw [c7]; decide) (by rw [c7]; rfl) (by decide) ?_
    refine lv_bipush (v := (6 : Int32)) hx hb dX5_mostOf_40 (by decide) ?_
    exact hend _ _ _ _ _ hP hD hS hV.symm rfl dX5_mostOf_42
  · have hV := hV.trans (if_neg c7)
    by_cases c8 : (p0 = (1 : Int32))
    · have hV := hV.trans (if_pos c8)
      refine lv_tableIn (off := 49) (tgt := 50) hx hb dX5_mostOf_1 (by rw [c8]; decide) (by rw [c8]; decide) (by rw [c8]; rfl) (by decide) ?_
      refine lv_sipush (v := (999 : Int32)) hx hb dX5_mostOf_50 (by decide) ?_
      exact hend _ _ _ _ _ hP hD hS hV.symm rfl dX5_mostOf_53
    · have hV := hV.trans (if_neg c8)
      by_cases c9 : (p0 = (2 : Int32))
      · have hV := hV.trans (if_pos c9)
        refine lv_tableIn (off := 45) (tgt := 46) hx hb dX5_mostOf_1 (by rw [c9]; decide) (by rw [c9]; decide) (by rw [c9]; rfl) (by decide) ?_
        refine lv_sipush (v := (9999 : Int32)) hx hb dX5_mostOf_46 (by decide) ?_
        exact hend _ _ _ _ _ hP hD hS hV.symm rfl dX5_mostOf_49
      · have hV := hV.trans (if_neg c9)
        by_cases c10 : (p0 = (3 : Int32))
        · have hV := hV.trans (if_pos c10)
          refine lv_tableIn (off := 42) (tgt := 43) hx hb dX5_mostOf_1 (by rw [c10]; decide) (by rw [c10]; decide) (by rw [c10]; rfl) (by decide) ?_
          refine lv_bipush (v := (99 : Int32)) hx hb dX5_mostOf_43 (by decide) ?_
          exact hend _ _ _ _ _ hP hD hS hV.symm rfl dX5_mostOf_45
        · have hV := hV.trans (if_neg c10)
          by_cases c11 : (p0 = (4 : Int32))
          · have hV := hV.trans (if_pos c11)
            refine lv_tableIn (off := 42) (tgt := 43) hx hb dX5_mostOf_1 (by rw [c11]; decide) (by rw [c11]; decide) (by rw [c11]; rfl) (by decide) ?_
            refine lv_bipush (v := (99 : Int32)) hx hb dX5_mostOf_43 (by decide) ?_
            exact hend _ _ _ _ _ hP hD hS hV.symm rfl dX5_mostOf_45
          · have hV := hV.trans (if_neg c11)
            by_cases c12 : (p0 = (5 : Int32))
            · have hV := hV.trans (if_pos c12)
              refine lv_tableIn (off := 45) (tgt := 46) hx hb dX5_mostOf_1 (by rw [c12]; decide) (by rw [c12]; decide) (by rw [c12]; rfl) (by decide) ?_
              refine lv_sipush (v := (9999 : Int32)) hx hb dX5_mostOf_46 (by decide) ?_
              exact hend _ _ _ _ _ hP hD hS hV.symm rfl dX5_mostOf_49
            · have hV := hV.trans (if_neg c12)
              refine lv_tableOut (tgt := 50) hx hb dX5_mostOf_1 (by have n0 := jneL (z := 0) c7 (by decide); have n1 := jneL (z := 1) c8 (by decide); have n2 := jneL (z := 2) c9 (by decide); have n3 := jneL (z := 3) c10 (by decide); have n4 := jneL (z := 4) c11 (by decide); have n5 := jneL (z := 5) c12 (by decide); omega) (by decide) ?_
              refine lv_sipush (v := (999 : Int32)) hx hb dX5_mostOf_50 (by decide) ?_
              exact hend _ _ _ _ _ hP hD hS hV.symm rfl dX5_mostOf_53
theorem dX5_isSheet_0 : decode cX5_isSheet 0 = .ok (.iload_n 0, 1) := by decide +kernel
theorem dX5_isSheet_1 : decode cX5_isSheet 1 = .ok (.iconst 0, 1) := by decide +kernel
theorem dX5_isSheet_2 : decode cX5_isSheet 2 = .ok (.iconst 3, 1) := by decide +kernel
theorem dX5_isSheet_3 : decode cX5_isSheet 3 = .ok (.invokestatic 40, 3) := by decide +kernel
theorem dX5_isSheet_6 : decode cX5_isSheet 6 = .ok (.ireturn, 1) := by decide +kernel
def rX5_isSheet : Room := { frames := 1, cells := 0, slots := 0, locals := 22 }
def vX5_isSheet (p0 : Int32) : Int32 := (vX5_in p0 (0 : Int32) (3 : Int32))
def kX5_isSheet (p0 : Int32) : Prop := ((vX5_in p0 (0 : Int32) (3 : Int32)) = 0 ∨ (vX5_in p0 (0 : Int32) (3 : Int32)) = 1) ∧ True
set_option maxHeartbeats 4000000 in
set_option maxRecDepth 100000 in
theorem hX5_isSheet (l : Launch) (D : va_G) (K : JK) (G : JG) (p0 : Int32) (hk : kX5_isSheet p0) (sz : Nat) : Met l yX5_isSheet (.code yX5_isSheet cX5_isSheet 1 (some .boolean) :: jGW) rX5_isSheet (jPre D (jT K) G [.int p0] ([] : va_W) sz) (jQi D (jT K) (vX5_isSheet p0) ([] : va_W) (va_A ([] : va_W) sz)) 0 0 (va_A ([] : va_W) sz) := by
  refine jEi (by decide) (Nat.le_of_ble_eq_true rfl) (fun p e s m below meth c A Q ls hat hP hD hS hl hend => ?_)
  obtain ⟨hx, hb, hml, hown, hts, hK, hZ, hA⟩ := hat
  have hl : lv_has ls 1 [(0, .int p0)] := hl
  have hV := vX5_isSheet.eq_1 p0
  rw [kX5_isSheet] at hk
  refine lv_iload_n hx hb dX5_isSheet_0 rfl (lv_at hl 0 rfl) ?_
  refine lv_iconst (v := (0 : Int32)) hx hb dX5_isSheet_1 (by decide) ?_
  refine lv_iconst (v := (3 : Int32)) hx hb dX5_isSheet_2 (by decide) ?_
  refine jci0 (jrunS (As := [.int p0, .int (0 : Int32), .int (3 : Int32)]) (rest := []) hx hb hml hown hts hK hZ hA hP hD hS hl.1 mf_X5_in kl_X5_40 ⟨rfl, rfl, Nat.le_of_ble_eq_true rfl, Nat.le_of_ble_eq_true rfl⟩ ⟨Nat.zero_le _, Nat.zero_le _⟩ [] rfl rfl (hX5_in l D K G p0 (0 : Int32) (3 : Int32) _) rfl rfl (Nat.le_of_ble_eq_true rfl) dX5_isSheet_3) hA hP hD hS [] rfl (fun H locs hP hS => ?_)
  obtain ⟨h2, hk⟩ := hk
  exact hend _ _ _ _ _ hP hD hS hV.symm (jnb h2) dX5_isSheet_6
theorem dX5_mostOfHome_0 : decode cX5_mostOfHome 0 = .ok (.iload_n 0, 1) := by decide +kernel
theorem dX5_mostOfHome_1 : decode cX5_mostOfHome 1 = .ok (.tableswitch 38 1 4 #[31, 34, 34, 36], 31) := by decide +kernel
theorem dX5_mostOfHome_32 : decode cX5_mostOfHome 32 = .ok (.bipush 9, 2) := by decide +kernel
theorem dX5_mostOfHome_34 : decode cX5_mostOfHome 34 = .ok (.ireturn, 1) := by decide +kernel
theorem dX5_mostOfHome_35 : decode cX5_mostOfHome 35 = .ok (.iconst 1, 1) := by decide +kernel
theorem dX5_mostOfHome_36 : decode cX5_mostOfHome 36 = .ok (.ireturn, 1) := by decide +kernel
theorem dX5_mostOfHome_37 : decode cX5_mostOfHome 37 = .ok (.iconst 2, 1) := by decide +kernel
theorem dX5_mostOfHome_38 : decode cX5_mostOfHome 38 = .ok (.ireturn, 1) := by decide +kernel
theorem dX5_mostOfHome_39 : decode cX5_mostOfHome 39 = .ok (.sipush 9999, 3) := by decide +kernel
theorem dX5_mostOfHome_42 : decode cX5_mostOfHome 42 = .ok (.ireturn, 1) := by decide +kernel
def rX5_mostOfHome : Room := { frames := 0, cells := 0, slots := 0, locals := 0 }
def vX5_mostOfHome (p0 : Int32) : Int32 := if (p0 = (1 : Int32)) then (9 : Int32) else if (p0 = (2 : Int32)) then (1 : Int32) else if (p0 = (3 : Int32)) then (1 : Int32) else if (p0 = (4 : Int32)) then (2 : Int32) else (9999 : Int32)
set_option maxHeartbeats 4000000 in
set_option maxRecDepth 100000 in
theorem hX5_mostOfHome (l : Launch) (D : va_G) (K : JK) (G : JG) (p0 : Int32) (sz : Nat) : Met l yX5_mostOfHome (.code yX5_mostOfHome cX5_mostOfHome 1 (some .int) :: jGW) rX5_mostOfHome (jPre D (jT K) G [.int p0] ([] : va_W) sz) (jQi D (jT K) (vX5_mostOfHome p0) ([] : va_W) (va_A ([] : va_W) sz)) 0 0 (va_A ([] : va_W) sz) := by
  refine jEi (by decide) (Nat.le_of_ble_eq_true rfl) (fun p e s m below meth c A Q ls hat hP hD hS hl hend => ?_)
  obtain ⟨hx, hb, hml, hown, hts, hK, hZ, hA⟩ := hat
  have hl : lv_has ls 1 [(0, .int p0)] := hl
  have hV := vX5_mostOfHome.eq_1 p0
  refine lv_iload_n hx hb dX5_mostOfHome_0 rfl (lv_at hl 0 rfl) ?_
  by_cases c5 : (p0 = (1 : Int32))
  · have hV := hV.trans (if_pos c5)
    refine lv_tableIn (off := 31) (tgt := 32) hx hb dX5_mostOfHome_1 (by rw [c5]; decide) (by rw [c5]; decide) (by rw [c5]; rfl) (by decide) ?_
    refine lv_bipush (v := (9 : Int32)) hx hb dX5_mostOfHome_32 (by decide) ?_
    exact hend _ _ _ _ _ hP hD hS hV.symm rfl dX5_mostOfHome_34
  · have hV := hV.trans (if_neg c5)
    by_cases c6 : (p0 = (2 : Int32))
    · have hV := hV.trans (if_pos c6)
      refine lv_tableIn (off := 34) (tgt := 35) hx hb dX5_mostOfHome_1 (by rw [c6]; decide) (by rw [c6]; decide) (by rw [c6]; rfl) (by decide) ?_
      refine lv_iconst (v := (1 : Int32)) hx hb dX5_mostOfHome_35 (by decide) ?_
      exact hend _ _ _ _ _ hP hD hS hV.symm rfl dX5_mostOfHome_36
    · have hV := hV.trans (if_neg c6)
      by_cases c7 : (p0 = (3 : Int32))
      · have hV := hV.trans (if_pos c7)
        refine lv_tableIn (off := 34) (tgt := 35) hx hb dX5_mostOfHome_1 (by rw [c7]; decide) (by rw [c7]; decide) (by rw [c7]; rfl) (by decide) ?_
        refine lv_iconst (v := (1 : Int32)) hx hb dX5_mostOfHome_35 (by decide) ?_
        exact hend _ _ _ _ _ hP hD hS hV.symm rfl dX5_mostOfHome_36
      · have hV := hV.trans (if_neg c7)
        by_cases c8 : (p0 = (4 : Int32))
        · have hV := hV.trans (if_pos c8)
          refine lv_tableIn (off := 36) (tgt := 37) hx hb dX5_mostOfHome_1 (by rw [c8]; decide) (by rw [c8]; decide) (by rw [c8]; rfl) (by decide) ?_
          refine lv_iconst (v := (2 : Int32)) hx hb dX5_mostOfHome_37 (by decide) ?_
          exact hend _ _ _ _ _ hP hD hS hV.symm rfl dX5_mostOfHome_38
        · have hV := hV.trans (if_neg c8)
          refine lv_tableOut (tgt := 39) hx hb dX5_mostOfHome_1 (by have n0 := jneL (z := 1) c5 (by decide); have n1 := jneL (z := 2) c6 (by decide); have n2 := jneL (z := 3) c7 (by decide); have n3 := jneL (z := 4) c8 (by decide); omega) (by decide) ?_
          refine lv_sipush (v := (9999 : Int32)) hx hb dX5_mostOfHome_39 (by decide) ?_
          exact hend _ _ _ _ _ hP hD hS hV.symm rfl dX5_mostOfHome_42
end
section
theorem dX0_put_0 : decode cX0_put 0 = .ok (.aload_n 0, 1) := by decide +kernel
theorem dX0_put_1 : decode cX0_put 1 = .ok (.getfield 26, 3) := by decide +kernel
theorem dX0_put_4 : decode cX0_put 4 = .ok (.iload_n 1, 1) := by decide +kernel
theorem dX0_put_5 : decode cX0_put 5 = .ok (.bipush 7, 2) := by decide +kernel
theorem dX0_put_7 : decode cX0_put 7 = .ok (.imul, 1) := by decide +kernel
theorem dX0_put_8 : decode cX0_put 8 = .ok (.iload_n 2, 1) := by decide +kernel
theorem dX0_put_9 : decode cX0_put 9 = .ok (.iadd, 1) := by decide +kernel
theorem dX0_put_10 : decode cX0_put 10 = .ok (.iload_n 3, 1) := by decide +kernel
theorem dX0_put_11 : decode cX0_put 11 = .ok (.iastore, 1) := by decide +kernel
theorem dX0_put_12 : decode cX0_put 12 = .ok (.return_, 1) := by decide +kernel
def rX0_put : Room := { frames := 0, cells := 0, slots := 0, locals := 0 }
def vX0_put (E0 : ES) (p1 : Int32) (p2 : Int32) (p3 : Int32) : ES := (e_s_traits E0 (upd (e_traits E0) (((p1 * (7 : Int32)) + p2)).toNatClampNeg p3))
def kX0_put (E0 : ES) (p1 : Int32) (p2 : Int32) (p3 : Int32) : Prop := (vp_in ((p1 * (7 : Int32)) + p2) 56) ∧ True
set_option maxHeartbeats 4000000 in
set_option maxRecDepth 100000 in
theorem hX0_put (l : Launch) (D : va_G) (K : JK) (G : JG) (a : Nat → Nat) (E0 : ES) (p1 : Int32) (p2 : Int32) (p3 : Int32) (hk : kX0_put E0 p1 p2 p3) (sz : Nat) : Met l yX0_put (.code yX0_put cX0_put 4 none :: jGW) rX0_put (jPre D (jT K) G [.ref (a 0), .int p1, .int p2, .int p3] (wE K a E0) sz) (jQv D (jT K) (wE K a (vX0_put E0 p1 p2 p3)) (va_A (wE K a E0) sz)) 0 0 (va_A (wE K a E0) sz) := by
  refine jEv (by decide) (Nat.le_of_ble_eq_true rfl) (fun p e s m below meth c A Q ls hat hP hD hS hl hend => ?_)
  obtain ⟨hx, hb, hml, hown, hts, hK, hZ, hA⟩ := hat
  have hl : lv_has ls 4 [(0, .ref (a 0)), (1, .int p1), (2, .int p2), (3, .int p3)] := hl
  have hV := vX0_put.eq_1 E0 p1 p2 p3
  rw [kX0_put] at hk
  refine lv_aload_n hx hb dX0_put_0 rfl (lv_at hl 0 rfl) ?_
  refine gf_X0_26 (v := .ref (a 3)) hx hb hts hown hK hZ hP (0) rfl rfl dX0_put_1 ?_
  refine lv_iload_n hx hb dX0_put_4 rfl (lv_at hl 1 rfl) ?_
  refine lv_bipush (v := (7 : Int32)) hx hb dX0_put_5 (by decide) ?_
  refine lv_imul hx hb dX0_put_7 ?_
  refine lv_iload_n hx hb dX0_put_8 rfl (lv_at hl 2 rfl) ?_
  refine lv_iadd hx hb dX0_put_9 ?_
  refine lv_iload_n hx hb dX0_put_10 rfl (lv_at hl 3 rfl) ?_
  obtain ⟨h2, hk⟩ := hk
  refine va_iast hx hb hK hP hD hS (3) 0 rfl rfl h2 dX0_put_11 (fun H locs hP hD hS => ?_)
  have hP : va_P D vwCl (wE K a (e_s_traits E0 (upd (e_traits E0) (((p1 * (7 : Int32)) + p2)).toNatClampNeg p3))) H := hP
  have hD : va_D A (wE K a (e_s_traits E0 (upd (e_traits E0) (((p1 * (7 : Int32)) + p2)).toNatClampNeg p3))) := hD
  exact hend _ _ _ _ (by rw [hV]; exact hP) (by rw [hV]; exact hD) hS dX0_put_12
theorem dX0_add_0 : decode cX0_add 0 = .ok (.aload_n 0, 1) := by decide +kernel
theorem dX0_add_1 : decode cX0_add 1 = .ok (.getfield 32, 3) := by decide +kernel
theorem dX0_add_4 : decode cX0_add 4 = .ok (.bipush 8, 2) := by decide +kernel
theorem dX0_add_6 : decode cX0_add 6 = .ok (.if_icmp .lt 5, 3) := by decide +kernel
theorem dX0_add_9 : decode cX0_add 9 = .ok (.iconst (-1), 1) := by decide +kernel
theorem dX0_add_10 : decode cX0_add 10 = .ok (.ireturn, 1) := by decide +kernel
theorem dX0_add_11 : decode cX0_add 11 = .ok (.aload_n 0, 1) := by decide +kernel
theorem dX0_add_12 : decode cX0_add 12 = .ok (.getfield 32, 3) := by decide +kernel
theorem dX0_add_15 : decode cX0_add 15 = .ok (.istore_n 3, 1) := by decide +kernel
theorem dX0_add_16 : decode cX0_add 16 = .ok (.aload_n 0, 1) := by decide +kernel
theorem dX0_add_17 : decode cX0_add 17 = .ok (.dup, 1) := by decide +kernel
theorem dX0_add_18 : decode cX0_add 18 = .ok (.getfield 32, 3) := by decide +kernel
theorem dX0_add_21 : decode cX0_add 21 = .ok (.iconst 1, 1) := by decide +kernel
theorem dX0_add_22 : decode cX0_add 22 = .ok (.iadd, 1) := by decide +kernel
theorem dX0_add_23 : decode cX0_add 23 = .ok (.putfield 32, 3) := by decide +kernel
theorem dX0_add_26 : decode cX0_add 26 = .ok (.aload_n 0, 1) := by decide +kernel
theorem dX0_add_27 : decode cX0_add 27 = .ok (.iload_n 3, 1) := by decide +kernel
theorem dX0_add_28 : decode cX0_add 28 = .ok (.iconst 0, 1) := by decide +kernel
theorem dX0_add_29 : decode cX0_add 29 = .ok (.iload_n 1, 1) := by decide +kernel
theorem dX0_add_30 : decode cX0_add 30 = .ok (.invokevirtual 54, 3) := by decide +kernel
theorem dX0_add_33 : decode cX0_add 33 = .ok (.aload_n 0, 1) := by decide +kernel
theorem dX0_add_34 : decode cX0_add 34 = .ok (.iload_n 3, 1) := by decide +kernel
theorem dX0_add_35 : decode cX0_add 35 = .ok (.iconst 1, 1) := by decide +kernel
theorem dX0_add_36 : decode cX0_add 36 = .ok (.iload_n 2, 1) := by decide +kernel
theorem dX0_add_37 : decode cX0_add 37 = .ok (.invokevirtual 54, 3) := by decide +kernel
theorem dX0_add_40 : decode cX0_add 40 = .ok (.aload_n 0, 1) := by decide +kernel
theorem dX0_add_41 : decode cX0_add 41 = .ok (.iload_n 3, 1) := by decide +kernel
theorem dX0_add_42 : decode cX0_add 42 = .ok (.iconst 2, 1) := by decide +kernel
theorem dX0_add_43 : decode cX0_add 43 = .ok (.iconst 0, 1) := by decide +kernel
theorem dX0_add_44 : decode cX0_add 44 = .ok (.invokevirtual 54, 3) := by decide +kernel
theorem dX0_add_47 : decode cX0_add 47 = .ok (.aload_n 0, 1) := by decide +kernel
theorem dX0_add_48 : decode cX0_add 48 = .ok (.iload_n 3, 1) := by decide +kernel
theorem dX0_add_49 : decode cX0_add 49 = .ok (.iconst 3, 1) := by decide +kernel
theorem dX0_add_50 : decode cX0_add 50 = .ok (.bipush 99, 2) := by decide +kernel
theorem dX0_add_52 : decode cX0_add 52 = .ok (.invokevirtual 54, 3) := by decide +kernel
theorem dX0_add_55 : decode cX0_add 55 = .ok (.aload_n 0, 1) := by decide +kernel
theorem dX0_add_56 : decode cX0_add 56 = .ok (.iload_n 3, 1) := by decide +kernel
theorem dX0_add_57 : decode cX0_add 57 = .ok (.iconst 4, 1) := by decide +kernel
theorem dX0_add_58 : decode cX0_add 58 = .ok (.bipush 99, 2) := by decide +kernel
theorem dX0_add_60 : decode cX0_add 60 = .ok (.invokevirtual 54, 3) := by decide +kernel
theorem dX0_add_63 : decode cX0_add 63 = .ok (.aload_n 0, 1) := by decide +kernel
theorem dX0_add_64 : decode cX0_add 64 = .ok (.iload_n 3, 1) := by decide +kernel
theorem dX0_add_65 : decode cX0_add 65 = .ok (.iconst 5, 1) := by decide +kernel
theorem dX0_add_66 : decode cX0_add 66 = .ok (.iconst 0, 1) := by decide +kernel
theorem dX0_add_67 : decode cX0_add 67 = .ok (.invokevirtual 54, 3) := by decide +kernel
theorem dX0_add_70 : decode cX0_add 70 = .ok (.aload_n 0, 1) := by decide +kernel
theorem dX0_add_71 : decode cX0_add 71 = .ok (.iload_n 3, 1) := by decide +kernel
theorem dX0_add_72 : decode cX0_add 72 = .ok (.bipush 6, 2) := by decide +kernel
theorem dX0_add_74 : decode cX0_add 74 = .ok (.iconst 0, 1) := by decide +kernel
theorem dX0_add_75 : decode cX0_add 75 = .ok (.invokevirtual 54, 3) := by decide +kernel
theorem dX0_add_78 : decode cX0_add 78 = .ok (.iload_n 3, 1) := by decide +kernel
theorem dX0_add_79 : decode cX0_add 79 = .ok (.ireturn, 1) := by decide +kernel
def rX0_add : Room := { frames := 1, cells := 0, slots := 0, locals := 23 }
def vX0_add (E0 : ES) (p1 : Int32) (p2 : Int32) : Int32 × ES := if ((e_things E0) < (8 : Int32)) then ((e_things E0), (vX0_put (vX0_put (vX0_put (vX0_put (vX0_put (vX0_put (vX0_put (e_s_things E0 ((e_things E0) + (1 : Int32))) (e_things E0) (0 : Int32) p1) (e_things E0) (1 : Int32) p2) (e_things E0) (2 : Int32) (0 : Int32)) (e_things E0) (3 : Int32) (99 : Int32)) (e_things E0) (4 : Int32) (99 : Int32)) (e_things E0) (5 : Int32) (0 : Int32)) (e_things E0) (6 : Int32) (0 : Int32))) else ((-1 : Int32), E0)
def kX0_add (E0 : ES) (p1 : Int32) (p2 : Int32) : Prop := (((e_things E0) < (8 : Int32)) → ((kX0_put (e_s_things E0 ((e_things E0) + (1 : Int32))) (e_things E0) (0 : Int32) p1) ∧ (kX0_put (vX0_put (e_s_things E0 ((e_things E0) + (1 : Int32))) (e_things E0) (0 : Int32) p1) (e_things E0) (1 : Int32) p2) ∧ (kX0_put (vX0_put (vX0_put (e_s_things E0 ((e_things E0) + (1 : Int32))) (e_things E0) (0 : Int32) p1) (e_things E0) (1 : Int32) p2) (e_things E0) (2 : Int32) (0 : Int32)) ∧ (kX0_put (vX0_put (vX0_put (vX0_put (e_s_things E0 ((e_things E0) + (1 : Int32))) (e_things E0) (0 : Int32) p1) (e_things E0) (1 : Int32) p2) (e_things E0) (2 : Int32) (0 : Int32)) (e_things E0) (3 : Int32) (99 : Int32)) ∧ (kX0_put (vX0_put (vX0_put (vX0_put (vX0_put (e_s_things E0 ((e_things E0) + (1 : Int32))) (e_things E0) (0 : Int32) p1) (e_things E0) (1 : Int32) p2) (e_things E0) (2 : Int32) (0 : Int32)) (e_things E0) (3 : Int32) (99 : Int32)) (e_things E0) (4 : Int32) (99 : Int32)) ∧ (kX0_put (vX0_put (vX0_put (vX0_put (vX0_put (vX0_put (e_s_things E0 ((e_things E0) + (1 : Int32))) (e_things E0) (0 : Int32) p1) (e_things E0) (1 : Int32) p2) (e_things E0) (2 : Int32) (0 : Int32)) (e_things E0) (3 : Int32) (99 : Int32)) (e_things E0) (4 : Int32) (99 : Int32)) (e_things E0) (5 : Int32) (0 : Int32)) ∧ (kX0_put (vX0_put (vX0_put (vX0_put (vX0_put (vX0_put (vX0_put (e_s_things E0 ((e_things E0) + (1 : Int32))) (e_things E0) (0 : Int32) p1) (e_things E0) (1 : Int32) p2) (e_things E0) (2 : Int32) (0 : Int32)) (e_things E0) (3 : Int32) (99 : Int32)) (e_things E0) (4 : Int32) (99 : Int32)) (e_things E0) (5 : Int32) (0 : Int32)) (e_things E0) (6 : Int32) (0 : Int32)) ∧ True)) ∧ (¬ ((e_things E0) < (8 : Int32)) → True)
set_option maxHeartbeats 4000000 in
set_option maxRecDepth 100000 in
theorem hX0_add (l : Launch) (D : va_G) (K : JK) (G : JG) (a : Nat → Nat) (E0 : ES) (p1 : Int32) (p2 : Int32) (hk : kX0_add E0 p1 p2) (sz : Nat) : Met l yX0_add (.code yX0_add cX0_add 4 (some .int) :: jGW) rX0_add (jPre D (jT K) G [.ref (a 0), .int p1, .int p2] (wE K a E0) sz) (jQi D (jT K) ((vX0_add E0 p1 p2).1) (wE K a ((vX0_add E0 p1 p2).2)) (va_A (wE K a E0) sz)) 0 0 (va_A (wE K a E0) sz) := by
  refine jEi (by decide) (Nat.le_of_ble_eq_true rfl) (fun p e s m below meth c A Q ls hat hP hD hS hl hend => ?_)
  obtain ⟨hx, hb, hml, hown, hts, hK, hZ, hA⟩ := hat
  have hl : lv_has ls 4 [(0, .ref (a 0)), (1, .int p1), (2, .int p2)] := hl
  have hV := vX0_add.eq_1 E0 p1 p2
  rw [kX0_add] at hk
  refine lv_aload_n hx hb dX0_add_0 rfl (lv_at hl 0 rfl) ?_
  refine gf_X0_32 (v := .int (e_things E0)) hx hb hts hown hK hZ hP (0) rfl rfl dX0_add_1 ?_
  refine lv_bipush (v := (8 : Int32)) hx hb dX0_add_4 (by decide) ?_
  refine lv_icmp_lt (tgt := 11) hx hb dX0_add_6 (by decide) (fun c9 => ?_) (fun c9 => ?_)
  · have hV := hV.trans (if_pos c9)
    have hk := hk.1 c9
    refine lv_aload_n hx hb dX0_add_11 rfl (lv_at hl 0 rfl) ?_
    refine gf_X0_32 (v := .int (e_things E0)) hx hb hts hown hK hZ hP (0) rfl rfl dX0_add_12 ?_
    refine lv_istore_n (lv' := [(3, .int (e_things E0)), (0, .ref (a 0)), (1, .int p1), (2, .int p2)]) hx hb dX0_add_15 rfl hl (by decide) rfl (fun ls hl => ?_)
    refine lv_aload_n hx hb dX0_add_16 rfl (lv_at hl 1 rfl) ?_
    refine lv_dup hx hb dX0_add_17 rfl ?_
    refine gf_X0_32 (v := .int (e_things E0)) hx hb hts hown hK hZ hP (0) rfl rfl dX0_add_18 ?_
    refine lv_iconst (v := (1 : Int32)) hx hb dX0_add_21 (by decide) ?_
    refine lv_iadd hx hb dX0_add_22 ?_
    refine pf_X0_32 hx hb hts hown hK hZ hP hD hS (0) rfl rfl rfl (Nat.le_of_ble_eq_true rfl) dX0_add_23 (fun H locs hP hD hS => ?_)
    have hP : va_P D vwCl (wE K a (e_s_things E0 ((e_things E0) + (1 : Int32)))) H := hP
    have hD : va_D A (wE K a (e_s_things E0 ((e_things E0) + (1 : Int32)))) := hD
    refine lv_aload_n hx hb dX0_add_26 rfl (lv_at hl 1 rfl) ?_
    refine lv_iload_n hx hb dX0_add_27 rfl (lv_at hl 0 rfl) ?_
    refine lv_iconst (v := (0 : Int32)) hx hb dX0_add_28 (by decide) ?_
    refine lv_iload_n hx hb dX0_add_29 rfl (lv_at hl 2 rfl) ?_
    obtain ⟨h10, hk⟩ := hk
    refine jcv (jrunV (As := [.int (e_things E0), .int (0 : Int32), .int p1]) (rest := []) hx hb hml hown hts hK hZ hA hP hD hS hl.1 mf_X0_put kl_X0_54 ⟨rfl, rfl, Nat.le_of_ble_eq_true rfl, Nat.le_of_ble_eq_true rfl⟩ ⟨Nat.zero_le _, Nat.zero_le _⟩ [0, 1, 2, 3, 4] rfl rfl rfl rfl rfl (hX0_put l D K G a (e_s_things E0 ((e_things E0) + (1 : Int32))) (e_things E0) (0 : Int32) p1 h10 _) rfl rfl (Nat.le_of_ble_eq_true rfl) dX0_add_30) hA hP hD hS [0, 1, 2, 3, 4] rfl rfl (fun H locs hP hD hS => ?_)
    have hP : va_P D vwCl (wE K a (vX0_put (e_s_things E0 ((e_things E0) + (1 : Int32))) (e_things E0) (0 : Int32) p1)) H := hP
    have hD : va_D A (wE K a (vX0_put (e_s_things E0 ((e_things E0) + (1 : Int32))) (e_things E0) (0 : Int32) p1)) := hD
    refine lv_aload_n hx hb dX0_add_33 rfl (lv_at hl 1 rfl) ?_
    refine lv_iload_n hx hb dX0_add_34 rfl (lv_at hl 0 rfl) ?_
    refine lv_iconst (v := (1 : Int32)) hx hb dX0_add_35 (by decide) ?_
    refine lv_iload_n hx hb dX0_add_36 rfl (lv_at hl 3 rfl) ?_
    obtain ⟨h11, hk⟩ := hk
    refine jcv (jrunV (As := [.int (e_things E0), .int (1 : Int32), .int p2]) (rest := []) hx hb hml hown hts hK hZ hA hP hD hS hl.1 mf_X0_put kl_X0_54 ⟨rfl, rfl, Nat.le_of_ble_eq_true rfl, Nat.le_of_ble_eq_true rfl⟩ ⟨Nat.zero_le _, Nat.zero_le _⟩ [0, 1, 2, 3, 4] rfl rfl rfl rfl rfl (hX0_put l D K G a (vX0_put (e_s_things E0 ((e_things E0) + (1 : Int32))) (e_things E0) (0 : Int32) p1) (e_things E0) (1 : Int32) p2 h11 _) rfl rfl (Nat.le_of_ble_eq_true rfl) dX0_add_37) hA hP hD hS [0, 1, 2, 3, 4] rfl rfl (fun H locs hP hD hS => ?_)
    have hP : va_P D vwCl (wE K a (vX0_put (vX0_put (e_s_things E0 ((e_things E0) + (1 : Int32))) (e_things E0) (0 : Int32) p1) (e_things E0) (1 : Int32) p2)) H := hP
    have hD : va_D A (wE K a (vX0_put (vX0_put (e_s_things E0 ((e_things E0) + (1 : Int32))) (e_things E0) (0 : Int32) p1) (e_things E0) (1 : Int32) p2)) := hD
    refine lv_aload_n hx hb dX0_add_40 rfl (lv_at hl 1 rfl) ?_
    refine lv_iload_n hx hb dX0_add_41 rfl (lv_at hl 0 rfl) ?_
    refine lv_iconst (v := (2 : Int32)) hx hb dX0_add_42 (by decide) ?_
    refine lv_iconst (v := (0 : Int32)) hx hb dX0_add_43 (by decide) ?_
    obtain ⟨h12, hk⟩ := hk
    refine jcv (jrunV (As := [.int (e_things E0), .int (2 : Int32), .int (0 : Int32)]) (rest := []) hx hb hml hown hts hK hZ hA hP hD hS hl.1 mf_X0_put kl_X0_54 ⟨rfl, rfl, Nat.le_of_ble_eq_true rfl, Nat.le_of_ble_eq_true rfl⟩ ⟨Nat.zero_le _, Nat.zero_le _⟩ [0, 1, 2, 3, 4] rfl rfl rfl rfl rfl (hX0_put l D K G a (vX0_put (vX0_put (e_s_things E0 ((e_things E0) + (1 : Int32))) (e_things E0) (0 : Int32) p1) (e_things E0) (1 : Int32) p2) (e_things E0) (2 : Int32) (0 : Int32) h12 _) rfl rfl (Nat.le_of_ble_eq_true rfl) dX0_add_44) hA hP hD hS [0, 1, 2, 3, 4] rfl rfl (fun H locs hP hD hS => ?_)
    have hP : va_P D vwCl (wE K a (vX0_put (vX0_put (vX0_put (e_s_things E0 ((e_things E0) + (1 : Int32))) (e_things E0) (0 : Int32) p1) (e_things E0) (1 : Int32) p2) (e_things E0) (2 : Int32) (0 : Int32))) H := hP
    have hD : va_D A (wE K a (vX0_put (vX0_put (vX0_put (e_s_things E0 ((e_things E0) + (1 : Int32))) (e_things E0) (0 : Int32) p1) (e_things E0) (1 : Int32) p2) (e_things E0) (2 : Int32) (0 : Int32))) := hD
    refine lv_aload_n hx hb dX0_add_47 rfl (lv_at hl 1 rfl) ?_
    refine lv_iload_n hx hb dX0_add_48 rfl (lv_at hl 0 rfl) ?_
    refine lv_iconst (v := (3 : Int32)) hx hb dX0_add_49 (by decide) ?_
    refine lv_bipush (v := (99 : Int32)) hx hb dX0_add_50 (by decide) ?_
    obtain ⟨h13, hk⟩ := hk
    refine jcv (jrunV (As := [.int (e_things E0), .int (3 : Int32), .int (99 : Int32)]) (rest := []) hx hb hml hown hts hK hZ hA hP hD hS hl.1 mf_X0_put kl_X0_54 ⟨rfl, rfl, Nat.le_of_ble_eq_true rfl, Nat.le_of_ble_eq_true rfl⟩ ⟨Nat.zero_le _, Nat.zero_le _⟩ [0, 1, 2, 3, 4] rfl rfl rfl rfl rfl (hX0_put l D K G a (vX0_put (vX0_put (vX0_put (e_s_things E0 ((e_things E0) + (1 : Int32))) (e_things E0) (0 : Int32) p1) (e_things E0) (1 : Int32) p2) (e_things E0) (2 : Int32) (0 : Int32)) (e_things E0) (3 : Int32) (99 : Int32) h13 _) rfl rfl (Nat.le_of_ble_eq_true rfl) dX0_add_52) hA hP hD hS [0, 1, 2, 3, 4] rfl rfl (fun H locs hP hD hS => ?_)
    have hP : va_P D vwCl (wE K a (vX0_put (vX0_put (vX0_put (vX0_put (e_s_things E0 ((e_things E0) + (1 : Int32))) (e_things E0) (0 : Int32) p1) (e_things E0) (1 : Int32) p2) (e_things E0) (2 : Int32) (0 : Int32)) (e_things E0) (3 : Int32) (99 : Int32))) H := hP
    have hD : va_D A (wE K a (vX0_put (vX0_put (vX0_put (vX0_put (e_s_things E0 ((e_things E0) + (1 : Int32))) (e_things E0) (0 : Int32) p1) (e_things E0) (1 : Int32) p2) (e_things E0) (2 : Int32) (0 : Int32)) (e_things E0) (3 : Int32) (99 : Int32))) := hD
    refine lv_aload_n hx hb dX0_add_55 rfl (lv_at hl 1 rfl) ?_
    refine lv_iload_n hx hb dX0_add_56 rfl (lv_at hl 0 rfl) ?_
    refine lv_iconst (v := (4 : Int32)) hx hb dX0_add_57 (by decide) ?_
    refine lv_bipush (v := (99 : Int32)) hx hb dX0_add_58 (by decide) ?_
    obtain ⟨h14, hk⟩ := hk
    refine jcv (jrunV (As := [.int (e_things E0), .int (4 : Int32), .int (99 : Int32)]) (rest := []) hx hb hml hown hts hK hZ hA hP hD hS hl.1 mf_X0_put kl_X0_54 ⟨rfl, rfl, Nat.le_of_ble_eq_true rfl, Nat.le_of_ble_eq_true rfl⟩ ⟨Nat.zero_le _, Nat.zero_le _⟩ [0, 1, 2, 3, 4] rfl rfl rfl rfl rfl (hX0_put l D K G a (vX0_put (vX0_put (vX0_put (vX0_put (e_s_things E0 ((e_things E0) + (1 : Int32))) (e_things E0) (0 : Int32) p1) (e_things E0) (1 : Int32) p2) (e_things E0) (2 : Int32) (0 : Int32)) (e_things E0) (3 : Int32) (99 : Int32)) (e_things E0) (4 : Int32) (99 : Int32) h14 _) rfl rfl (Nat.le_of_ble_eq_true rfl) dX0_add_60) hA hP hD hS [0, 1, 2, 3, 4] rfl rfl (fun H locs hP hD hS => ?_)
    have hP : va_P D vwCl (wE K a (vX0_put (vX0_put (vX0_put (vX0_put (vX0_put (e_s_things E0 ((e_things E0) + (1 : Int32))) (e_things E0) (0 : Int32) p1) (e_things E0) (1 : Int32) p2) (e_things E0) (2 : Int32) (0 : Int32)) (e_things E0) (3 : Int32) (99 : Int32)) (e_things E0) (4 : Int32) (99 : Int32))) H := hP
    have hD : va_D A (wE K a (vX0_put (vX0_put (vX0_put (vX0_put (vX0_put (e_s_things E0 ((e_things E0) + (1 : Int32))) (e_things E0) (0 : Int32) p1) (e_things E0) (1 : Int32) p2) (e_things E0) (2 : Int32) (0 : Int32)) (e_things E0) (3 : Int32) (99 : Int32)) (e_things E0) (4 : Int32) (99 : Int32))) := hD
    refine lv_aload_n hx hb dX0_add_63 rfl (lv_at hl 1 rfl) ?_
    refine lv_iload_n hx hb dX0_add_64 rfl (lv_at hl 0 rfl) ?_
    refine lv_iconst (v := (5 : Int32)) hx hb dX0_add_65 (by decide) ?_
    refine lv_iconst (v := (0 : Int32)) hx hb dX0_add_66 (by decide) ?_
    obtain ⟨h15, hk⟩ := hk
    refine jcv (jrunV (As := [.int (e_things E0), .int (5 : Int32), .int (0 : Int32)]) (rest := []) hx hb hml hown hts hK hZ hA hP hD hS hl.1 mf_X0_put kl_X0_54 ⟨rfl, rfl, Nat.le_of_ble_eq_true rfl, Nat.le_of_ble_eq_true rfl⟩ ⟨Nat.zero_le _, Nat.zero_le _⟩ [0, 1, 2, 3, 4] rfl rfl rfl rfl rfl (hX0_put l D K G a (vX0_put (vX0_put (vX0_put (vX0_put (vX0_put (e_s_things E0 ((e_things E0) + (1 : Int32))) (e_things E0) (0 : Int32) p1) (e_things E0) (1 : Int32) p2) (e_things E0) (2 : Int32) (0 : Int32)) (e_things E0) (3 : Int32) (99 : Int32)) (e_things E0) (4 : Int32) (99 : Int32)) (e_things E0) (5 : Int32) (0 : Int32) h15 _) rfl rfl (Nat.le_of_ble_eq_true rfl) dX0_add_67) hA hP hD hS [0, 1, 2, 3, 4] rfl rfl (fun H locs hP hD hS => ?_)
    have hP : va_P D vwCl (wE K a (vX0_put (vX0_put (vX0_put (vX0_put (vX0_put (vX0_put (e_s_things E0 ((e_things E0) + (1 : Int32))) (e_things E0) (0 : Int32) p1) (e_things E0) (1 : Int32) p2) (e_things E0) (2 : Int32) (0 : Int32)) (e_things E0) (3 : Int32) (99 : Int32)) (e_things E0) (4 : Int32) (99 : Int32)) (e_things E0) (5 : Int32) (0 : Int32))) H := hP
    have hD : va_D A (wE K a (vX0_put (vX0_put (vX0_put (vX0_put (vX0_put (vX0_put (e_s_things E0 ((e_things E0) + (1 : Int32))) (e_things E0) (0 : Int32) p1) (e_things E0) (1 : Int32) p2) (e_things E0) (2 : Int32) (0 : Int32)) (e_things E0) (3 : Int32) (99 : Int32)) (e_things E0) (4 : Int32) (99 : Int32)) (e_things E0) (5 : Int32) (0 : Int32))) := hD
    refine lv_aload_n hx hb dX0_add_70 rfl (lv_at hl 1 rfl) ?_
    refine lv_iload_n hx hb dX0_add_71 rfl (lv_at hl 0 rfl) ?_
    refine lv_bipush (v := (6 : Int32)) hx hb dX0_add_72 (by decide) ?_
    refine lv_iconst (v := (0 : Int32)) hx hb dX0_add_74 (by decide) ?_
    obtain ⟨h16, hk⟩ := hk
    refine jcv (jrunV (As := [.int (e_things E0), .int (6 : Int32), .int (0 : Int32)]) (rest := []) hx hb hml hown hts hK hZ hA hP hD hS hl.1 mf_X0_put kl_X0_54 ⟨rfl, rfl, Nat.le_of_ble_eq_true rfl, Nat.le_of_ble_eq_true rfl⟩ ⟨Nat.zero_le _, Nat.zero_le _⟩ [0, 1, 2, 3, 4] rfl rfl rfl rfl rfl (hX0_put l D K G a (vX0_put (vX0_put (vX0_put (vX0_put (vX0_put (vX0_put (e_s_things E0 ((e_things E0) + (1 : Int32))) (e_things E0) (0 : Int32) p1) (e_things E0) (1 : Int32) p2) (e_things E0) (2 : Int32) (0 : Int32)) (e_things E0) (3 : Int32) (99 : Int32)) (e_things E0) (4 : Int32) (99 : Int32)) (e_things E0) (5 : Int32) (0 : Int32)) (e_things E0) (6 : Int32) (0 : Int32) h16 _) rfl rfl (Nat.le_of_ble_eq_true rfl) dX0_add_75) hA hP hD hS [0, 1, 2, 3, 4] rfl rfl (fun H locs hP hD hS => ?_)
    have hP : va_P D vwCl (wE K a (vX0_put (vX0_put (vX0_put (vX0_put (vX0_put (vX0_put (vX0_put (e_s_things E0 ((e_things E0) + (1 : Int32))) (e_things E0) (0 : Int32) p1) (e_things E0) (1 : Int32) p2) (e_things E0) (2 : Int32) (0 : Int32)) (e_things E0) (3 : Int32) (99 : Int32)) (e_things E0) (4 : Int32) (99 : Int32)) (e_things E0) (5 : Int32) (0 : Int32)) (e_things E0) (6 : Int32) (0 : Int32))) H := hP
    have hD : va_D A (wE K a (vX0_put (vX0_put (vX0_put (vX0_put (vX0_put (vX0_put (vX0_put (e_s_things E0 ((e_things E0) + (1 : Int32))) (e_things E0) (0 : Int32) p1) (e_things E0) (1 : Int32) p2) (e_things E0) (2 : Int32) (0 : Int32)) (e_things E0) (3 : Int32) (99 : Int32)) (e_things E0) (4 : Int32) (99 : Int32)) (e_things E0) (5 : Int32) (0 : Int32)) (e_things E0) (6 : Int32) (0 : Int32))) := hD
    refine lv_iload_n hx hb dX0_add_78 rfl (lv_at hl 0 rfl) ?_
    exact hend _ _ _ _ _ (by rw [hV]; exact hP) (by rw [hV]; exact hD) hS (by rw [hV]) rfl dX0_add_79
  · have hV := hV.trans (if_neg c9)
    have hk := hk.2 c9
    refine lv_iconst (v := (-1 : Int32)) hx hb dX0_add_9 (by decide) ?_
    exact hend _ _ _ _ _ (by rw [hV]; exact hP) (by rw [hV]; exact hD) hS (by rw [hV]) rfl dX0_add_10
theorem dX0_trait_0 : decode cX0_trait 0 = .ok (.aload_n 0, 1) := by decide +kernel
theorem dX0_trait_1 : decode cX0_trait 1 = .ok (.getfield 26, 3) := by decide +kernel
theorem dX0_trait_4 : decode cX0_trait 4 = .ok (.iload_n 1, 1) := by decide +kernel
theorem dX0_trait_5 : decode cX0_trait 5 = .ok (.bipush 7, 2) := by decide +kernel
theorem dX0_trait_7 : decode cX0_trait 7 = .ok (.imul, 1) := by decide +kernel
theorem dX0_trait_8 : decode cX0_trait 8 = .ok (.iload_n 2, 1) := by decide +kernel
theorem dX0_trait_9 : decode cX0_trait 9 = .ok (.iadd, 1) := by decide +kernel
theorem dX0_trait_10 : decode cX0_trait 10 = .ok (.iaload, 1) := by decide +kernel
theorem dX0_trait_11 : decode cX0_trait 11 = .ok (.ireturn, 1) := by decide +kernel
def rX0_trait : Room := { frames := 0, cells := 0, slots := 0, locals := 0 }
def vX0_trait (E0 : ES) (p1 : Int32) (p2 : Int32) : Int32 := ((e_traits E0) (((p1 * (7 : Int32)) + p2)).toNatClampNeg)
def kX0_trait (E0 : ES) (p1 : Int32) (p2 : Int32) : Prop := (vp_in ((p1 * (7 : Int32)) + p2) 56) ∧ True
set_option maxHeartbeats 4000000 in
set_option maxRecDepth 100000 in
theorem hX0_trait (l : Launch) (D : va_G) (K : JK) (G : JG) (a : Nat → Nat) (E0 : ES) (p1 : Int32) (p2 : Int32) (hk : kX0_trait E0 p1 p2) (sz : Nat) : Met l yX0_trait (.code yX0_trait cX0_trait 3 (some .int) :: jGW) rX0_trait (jPre D (jT K) G [.ref (a 0), .int p1, .int p2] (wE K a E0) sz) (jQi D (jT K) (vX0_trait E0 p1 p2) (wE K a E0) (va_A (wE K a E0) sz)) 0 0 (va_A (wE K a E0) sz) := by
  refine jEi (by decide) (Nat.le_of_ble_eq_true rfl) (fun p e s m below meth c A Q ls hat hP hD hS hl hend => ?_)
  obtain ⟨hx, hb, hml, hown, hts, hK, hZ, hA⟩ := hat
  have hl : lv_has ls 3 [(0, .ref (a 0)), (1, .int p1), (2, .int p2)] := hl
  have hV := vX0_trait.eq_1 E0 p1 p2
  rw [kX0_trait] at hk
  refine lv_aload_n hx hb dX0_trait_0 rfl (lv_at hl 0 rfl) ?_
  refine gf_X0_26 (v := .ref (a 3)) hx hb hts hown hK hZ hP (0) rfl rfl dX0_trait_1 ?_
  refine lv_iload_n hx hb dX0_trait_4 rfl (lv_at hl 1 rfl) ?_
  refine lv_bipush (v := (7 : Int32)) hx hb dX0_trait_5 (by decide) ?_
  refine lv_imul hx hb dX0_trait_7 ?_
  refine lv_iload_n hx hb dX0_trait_8 rfl (lv_at hl 2 rfl) ?_
  refine lv_iadd hx hb dX0_trait_9 ?_
  obtain ⟨h2, hk⟩ := hk
  refine va_iald hx hb hK hP (3) 0 rfl rfl h2 dX0_trait_10 ?_
  exact hend _ _ _ _ _ hP hD hS hV.symm rfl dX0_trait_11
theorem dX0_fair_0 : decode cX0_fair 0 = .ok (.aload_n 0, 1) := by decide +kernel
theorem dX0_fair_1 : decode cX0_fair 1 = .ok (.iload_n 1, 1) := by decide +kernel
theorem dX0_fair_2 : decode cX0_fair 2 = .ok (.iconst 0, 1) := by decide +kernel
theorem dX0_fair_3 : decode cX0_fair 3 = .ok (.invokevirtual 58, 3) := by decide +kernel
theorem dX0_fair_6 : decode cX0_fair 6 = .ok (.aload_n 0, 1) := by decide +kernel
theorem dX0_fair_7 : decode cX0_fair 7 = .ok (.iload_n 1, 1) := by decide +kernel
theorem dX0_fair_8 : decode cX0_fair 8 = .ok (.iconst 5, 1) := by decide +kernel
theorem dX0_fair_9 : decode cX0_fair 9 = .ok (.invokevirtual 58, 3) := by decide +kernel
theorem dX0_fair_12 : decode cX0_fair 12 = .ok (.aload_n 0, 1) := by decide +kernel
theorem dX0_fair_13 : decode cX0_fair 13 = .ok (.getfield 18, 3) := by decide +kernel
theorem dX0_fair_16 : decode cX0_fair 16 = .ok (.iconst 1, 1) := by decide +kernel
theorem dX0_fair_17 : decode cX0_fair 17 = .ok (.iaload, 1) := by decide +kernel
theorem dX0_fair_18 : decode cX0_fair 18 = .ok (.invokestatic 87, 3) := by decide +kernel
theorem dX0_fair_21 : decode cX0_fair 21 = .ok (.ireturn, 1) := by decide +kernel
def rX0_fair : Room := { frames := 1, cells := 0, slots := 0, locals := 22 }
def vX0_fair (E0 : ES) (p1 : Int32) : Int32 := (vX1_fair (vX0_trait E0 p1 (0 : Int32)) (vX0_trait E0 p1 (5 : Int32)) ((e_home E0) ((1 : Int32)).toNatClampNeg))
def kX0_fair (E0 : ES) (p1 : Int32) : Prop := (kX0_trait E0 p1 (0 : Int32)) ∧ (kX0_trait E0 p1 (5 : Int32)) ∧ True
set_option maxHeartbeats 4000000 in
set_option maxRecDepth 100000 in
theorem hX0_fair (l : Launch) (D : va_G) (K : JK) (G : JG) (a : Nat → Nat) (E0 : ES) (p1 : Int32) (hk : kX0_fair E0 p1) (sz : Nat) : Met l yX0_fair (.code yX0_fair cX0_fair 2 (some .int) :: jGW) rX0_fair (jPre D (jT K) G [.ref (a 0), .int p1] (wE K a E0) sz) (jQi D (jT K) (vX0_fair E0 p1) (wE K a E0) (va_A (wE K a E0) sz)) 0 0 (va_A (wE K a E0) sz) := by
  refine jEi (by decide) (Nat.le_of_ble_eq_true rfl) (fun p e s m below meth c A Q ls hat hP hD hS hl hend => ?_)
  obtain ⟨hx, hb, hml, hown, hts, hK, hZ, hA⟩ := hat
  have hl : lv_has ls 2 [(0, .ref (a 0)), (1, .int p1)] := hl
  have hV := vX0_fair.eq_1 E0 p1
  rw [kX0_fair] at hk
  refine lv_aload_n hx hb dX0_fair_0 rfl (lv_at hl 0 rfl) ?_
  refine lv_iload_n hx hb dX0_fair_1 rfl (lv_at hl 1 rfl) ?_
  refine lv_iconst (v := (0 : Int32)) hx hb dX0_fair_2 (by decide) ?_
  obtain ⟨h3, hk⟩ := hk
  refine jci0 (jrunV (As := [.int p1, .int (0 : Int32)]) (rest := []) hx hb hml hown hts hK hZ hA hP hD hS hl.1 mf_X0_trait kl_X0_58 ⟨rfl, rfl, Nat.le_of_ble_eq_true rfl, Nat.le_of_ble_eq_true rfl⟩ ⟨Nat.zero_le _, Nat.zero_le _⟩ [0, 1, 2, 3, 4] rfl rfl rfl rfl rfl (hX0_trait l D K G a E0 p1 (0 : Int32) h3 _) rfl rfl (Nat.le_of_ble_eq_true rfl) dX0_fair_3) hA hP hD hS [0, 1, 2, 3, 4] rfl (fun H locs hP hS => ?_)
  refine lv_aload_n hx hb dX0_fair_6 rfl (lv_at hl 0 rfl) ?_
  refine lv_iload_n hx hb dX0_fair_7 rfl (lv_at hl 1 rfl) ?_
  refine lv_iconst (v := (5 : Int32)) hx hb dX0_fair_8 (by decide) ?_
  obtain ⟨h4, hk⟩ := hk
  refine jci0 (jrunV (As := [.int p1, .int (5 : Int32)]) (rest := [.int (vX0_trait E0 p1 (0 : Int32))]) hx hb hml hown hts hK hZ hA hP hD hS hl.1 mf_X0_trait kl_X0_58 ⟨rfl, rfl, Nat.le_of_ble_eq_true rfl, Nat.le_of_ble_eq_true rfl⟩ ⟨Nat.zero_le _, Nat.zero_le _⟩ [0, 1, 2, 3, 4] rfl rfl rfl rfl rfl (hX0_trait l D K G a E0 p1 (5 : Int32) h4 _) rfl rfl (Nat.le_of_ble_eq_true rfl) dX0_fair_9) hA hP hD hS [0, 1, 2, 3, 4] rfl (fun H locs hP hS => ?_)
  refine lv_aload_n hx hb dX0_fair_12 rfl (lv_at hl 0 rfl) ?_
  refine gf_X0_18 (v := .ref (a 1)) hx hb hts hown hK hZ hP (0) rfl rfl dX0_fair_13 ?_
  refine lv_iconst (v := (1 : Int32)) hx hb dX0_fair_16 (by decide) ?_
  refine va_iald hx hb hK hP (1) 0 rfl rfl (by unfold vp_in; decide) dX0_fair_17 ?_
  refine jci0 (jrunS (As := [.int (vX0_trait E0 p1 (0 : Int32)), .int (vX0_trait E0 p1 (5 : Int32)), .int ((e_home E0) ((1 : Int32)).toNatClampNeg)]) (rest := []) hx hb hml hown hts hK hZ hA hP hD hS hl.1 mf_X1_fair kl_X0_87 ⟨rfl, rfl, Nat.le_of_ble_eq_true rfl, Nat.le_of_ble_eq_true rfl⟩ ⟨Nat.zero_le _, Nat.zero_le _⟩ [] rfl rfl (hX1_fair l D K G (vX0_trait E0 p1 (0 : Int32)) (vX0_trait E0 p1 (5 : Int32)) ((e_home E0) ((1 : Int32)).toNatClampNeg) _) rfl rfl (Nat.le_of_ble_eq_true rfl) dX0_fair_18) hA hP hD hS [] rfl (fun H locs hP hS => ?_)
  exact hend _ _ _ _ _ hP hD hS hV.symm rfl dX0_fair_21
theorem dX0_worse_0 : decode cX0_worse 0 = .ok (.iconst 0, 1) := by decide +kernel
theorem dX0_worse_1 : decode cX0_worse 1 = .ok (.aload_n 0, 1) := by decide +kernel
theorem dX0_worse_2 : decode cX0_worse 2 = .ok (.iload_n 1, 1) := by decide +kernel
theorem dX0_worse_3 : decode cX0_worse 3 = .ok (.iconst 3, 1) := by decide +kernel
theorem dX0_worse_4 : decode cX0_worse 4 = .ok (.invokevirtual 58, 3) := by decide +kernel
theorem dX0_worse_7 : decode cX0_worse 7 = .ok (.aload_n 0, 1) := by decide +kernel
theorem dX0_worse_8 : decode cX0_worse 8 = .ok (.iload_n 1, 1) := by decide +kernel
theorem dX0_worse_9 : decode cX0_worse 9 = .ok (.iconst 4, 1) := by decide +kernel
theorem dX0_worse_10 : decode cX0_worse 10 = .ok (.invokevirtual 58, 3) := by decide +kernel
theorem dX0_worse_13 : decode cX0_worse 13 = .ok (.isub, 1) := by decide +kernel
theorem dX0_worse_14 : decode cX0_worse 14 = .ok (.aload_n 0, 1) := by decide +kernel
theorem dX0_worse_15 : decode cX0_worse 15 = .ok (.iload_n 1, 1) := by decide +kernel
theorem dX0_worse_16 : decode cX0_worse 16 = .ok (.invokevirtual 71, 3) := by decide +kernel
theorem dX0_worse_19 : decode cX0_worse 19 = .ok (.isub, 1) := by decide +kernel
theorem dX0_worse_20 : decode cX0_worse 20 = .ok (.invokestatic 92, 3) := by decide +kernel
theorem dX0_worse_23 : decode cX0_worse 23 = .ok (.ireturn, 1) := by decide +kernel
def rX0_worse : Room := { frames := 2, cells := 0, slots := 0, locals := 43 }
def vX0_worse (E0 : ES) (p1 : Int32) : Int32 := (jmax (0 : Int32) (((vX0_trait E0 p1 (3 : Int32)) - (vX0_trait E0 p1 (4 : Int32))) - (vX0_fair E0 p1)))
def kX0_worse (E0 : ES) (p1 : Int32) : Prop := (kX0_trait E0 p1 (3 : Int32)) ∧ (kX0_trait E0 p1 (4 : Int32)) ∧ (kX0_fair E0 p1) ∧ True
set_option maxHeartbeats 4000000 in
set_option maxRecDepth 100000 in
theorem hX0_worse (l : Launch) (D : va_G) (K : JK) (G : JG) (a : Nat → Nat) (E0 : ES) (p1 : Int32) (hk : kX0_worse E0 p1) (sz : Nat) : Met l yX0_worse (.code yX0_worse cX0_worse 2 (some .int) :: jGW) rX0_worse (jPre D (jT K) G [.ref (a 0), .int p1] (wE K a E0) sz) (jQi D (jT K) (vX0_worse E0 p1) (wE K a E0) (va_A (wE K a E0) sz)) 0 0 (va_A (wE K a E0) sz) := by
  refine jEi (by decide) (Nat.le_of_ble_eq_true rfl) (fun p e s m below meth c A Q ls hat hP hD hS hl hend => ?_)
  obtain ⟨hx, hb, hml, hown, hts, hK, hZ, hA⟩ := hat
  have hl : lv_has ls 2 [(0, .ref (a 0)), (1, .int p1)] := hl
  have hV := vX0_worse.eq_1 E0 p1
  rw [kX0_worse] at hk
  refine lv_iconst (v := (0 : Int32)) hx hb dX0_worse_0 (by decide) ?_
  refine lv_aload_n hx hb dX0_worse_1 rfl (lv_at hl 0 rfl) ?_
  refine lv_iload_n hx hb dX0_worse_2 rfl (lv_at hl 1 rfl) ?_
  refine lv_iconst (v := (3 : Int32)) hx hb dX0_worse_3 (by decide) ?_
  obtain ⟨h4, hk⟩ := hk
  refine jci0 (jrunV (As := [.int p1, .int (3 : Int32)]) (rest := [.int (0 : Int32)]) hx hb hml hown hts hK hZ hA hP hD hS hl.1 mf_X0_trait kl_X0_58 ⟨rfl, rfl, Nat.le_of_ble_eq_true rfl, Nat.le_of_ble_eq_true rfl⟩ ⟨Nat.zero_le _, Nat.zero_le _⟩ [0, 1, 2, 3, 4] rfl rfl rfl rfl rfl (hX0_trait l D K G a E0 p1 (3 : Int32) h4 _) rfl rfl (Nat.le_of_ble_eq_true rfl) dX0_worse_4) hA hP hD hS [0, 1, 2, 3, 4] rfl (fun H locs hP hS => ?_)
  refine lv_aload_n hx hb dX0_worse_7 rfl (lv_at hl 0 rfl) ?_
  refine lv_iload_n hx hb dX0_worse_8 rfl (lv_at hl 1 rfl) ?_
  refine lv_iconst (v := (4 : Int32)) hx hb dX0_worse_9 (by decide) ?_
  obtain ⟨h5, hk⟩ := hk
  refine jci0 (jrunV (As := [.int p1, .int (4 : Int32)]) (rest := [.int (vX0_trait E0 p1 (3 : Int32)), .int (0 : Int32)]) hx hb hml hown hts hK hZ hA hP hD hS hl.1 mf_X0_trait kl_X0_58 ⟨rfl, rfl, Nat.le_of_ble_eq_true rfl, Nat.le_of_ble_eq_true rfl⟩ ⟨Nat.zero_le _, Nat.zero_le _⟩ [0, 1, 2, 3, 4] rfl rfl rfl rfl rfl (hX0_trait l D K G a E0 p1 (4 : Int32) h5 _) rfl rfl (Nat.le_of_ble_eq_true rfl) dX0_worse_10) hA hP hD hS [0, 1, 2, 3, 4] rfl (fun H locs hP hS => ?_)
  refine lv_isub hx hb dX0_worse_13 ?_
  refine lv_aload_n hx hb dX0_worse_14 rfl (lv_at hl 0 rfl) ?_
  refine lv_iload_n hx hb dX0_worse_15 rfl (lv_at hl 1 rfl) ?_
  obtain ⟨h6, hk⟩ := hk
  refine jci0 (jrunV (As := [.int p1]) (rest := [.int ((vX0_trait E0 p1 (3 : Int32)) - (vX0_trait E0 p1 (4 : Int32))), .int (0 : Int32)]) hx hb hml hown hts hK hZ hA hP hD hS hl.1 mf_X0_fair kl_X0_71 ⟨rfl, rfl, Nat.le_of_ble_eq_true rfl, Nat.le_of_ble_eq_true rfl⟩ ⟨Nat.zero_le _, Nat.zero_le _⟩ [0, 1, 2, 3, 4] rfl rfl rfl rfl rfl (hX0_fair l D K G a E0 p1 h6 _) rfl rfl (Nat.le_of_ble_eq_true rfl) dX0_worse_16) hA hP hD hS [0, 1, 2, 3, 4] rfl (fun H locs hP hS => ?_)
  refine lv_isub hx hb dX0_worse_19 ?_
  refine mmax_X0_92 hx hb (hml.trans hl.1.symm) hts hown (Nat.le_of_ble_eq_true rfl) (Nat.le_of_ble_eq_true rfl) (Nat.zero_le _) (Nat.zero_le _) dX0_worse_20 ?_
  exact hend _ _ _ _ _ hP hD hS hV.symm rfl dX0_worse_23
theorem dX0_awardOf_0 : decode cX0_awardOf 0 = .ok (.aload_n 0, 1) := by decide +kernel
theorem dX0_awardOf_1 : decode cX0_awardOf 1 = .ok (.getfield 18, 3) := by decide +kernel
theorem dX0_awardOf_4 : decode cX0_awardOf 4 = .ok (.iconst 4, 1) := by decide +kernel
theorem dX0_awardOf_5 : decode cX0_awardOf 5 = .ok (.iaload, 1) := by decide +kernel
theorem dX0_awardOf_6 : decode cX0_awardOf 6 = .ok (.istore 4, 2) := by decide +kernel
theorem dX0_awardOf_8 : decode cX0_awardOf 8 = .ok (.aload_n 0, 1) := by decide +kernel
theorem dX0_awardOf_9 : decode cX0_awardOf 9 = .ok (.getfield 18, 3) := by decide +kernel
theorem dX0_awardOf_12 : decode cX0_awardOf 12 = .ok (.iconst 3, 1) := by decide +kernel
theorem dX0_awardOf_13 : decode cX0_awardOf 13 = .ok (.iaload, 1) := by decide +kernel
theorem dX0_awardOf_14 : decode cX0_awardOf 14 = .ok (.ifCond .ne 13, 3) := by decide +kernel
theorem dX0_awardOf_17 : decode cX0_awardOf 17 = .ok (.iload 4, 2) := by decide +kernel
theorem dX0_awardOf_19 : decode cX0_awardOf 19 = .ok (.iconst 1, 1) := by decide +kernel
theorem dX0_awardOf_20 : decode cX0_awardOf 20 = .ok (.if_icmp .eq 7, 3) := by decide +kernel
theorem dX0_awardOf_23 : decode cX0_awardOf 23 = .ok (.iconst 1, 1) := by decide +kernel
theorem dX0_awardOf_24 : decode cX0_awardOf 24 = .ok (.goto 4, 3) := by decide +kernel
theorem dX0_awardOf_27 : decode cX0_awardOf 27 = .ok (.iconst 0, 1) := by decide +kernel
theorem dX0_awardOf_28 : decode cX0_awardOf 28 = .ok (.istore 5, 2) := by decide +kernel
theorem dX0_awardOf_30 : decode cX0_awardOf 30 = .ok (.aload_n 0, 1) := by decide +kernel
theorem dX0_awardOf_31 : decode cX0_awardOf 31 = .ok (.getfield 18, 3) := by decide +kernel
theorem dX0_awardOf_34 : decode cX0_awardOf 34 = .ok (.iconst 2, 1) := by decide +kernel
theorem dX0_awardOf_35 : decode cX0_awardOf 35 = .ok (.iaload, 1) := by decide +kernel
theorem dX0_awardOf_36 : decode cX0_awardOf 36 = .ok (.ifCond .eq 14, 3) := by decide +kernel
theorem dX0_awardOf_39 : decode cX0_awardOf 39 = .ok (.iload 5, 2) := by decide +kernel
theorem dX0_awardOf_41 : decode cX0_awardOf 41 = .ok (.ifCond .ne 9, 3) := by decide +kernel
theorem dX0_awardOf_44 : decode cX0_awardOf 44 = .ok (.iload 4, 2) := by decide +kernel
theorem dX0_awardOf_46 : decode cX0_awardOf 46 = .ok (.iconst 2, 1) := by decide +kernel
theorem dX0_awardOf_47 : decode cX0_awardOf 47 = .ok (.if_icmp .ne 5, 3) := by decide +kernel
theorem dX0_awardOf_50 : decode cX0_awardOf 50 = .ok (.iconst 0, 1) := by decide +kernel
theorem dX0_awardOf_51 : decode cX0_awardOf 51 = .ok (.ireturn, 1) := by decide +kernel
theorem dX0_awardOf_52 : decode cX0_awardOf 52 = .ok (.iload_n 3, 1) := by decide +kernel
theorem dX0_awardOf_53 : decode cX0_awardOf 53 = .ok (.iload_n 1, 1) := by decide +kernel
theorem dX0_awardOf_54 : decode cX0_awardOf 54 = .ok (.invokestatic 100, 3) := by decide +kernel
theorem dX0_awardOf_57 : decode cX0_awardOf 57 = .ok (.istore 6, 2) := by decide +kernel
theorem dX0_awardOf_59 : decode cX0_awardOf 59 = .ok (.iload 4, 2) := by decide +kernel
theorem dX0_awardOf_61 : decode cX0_awardOf 61 = .ok (.iconst 1, 1) := by decide +kernel
theorem dX0_awardOf_62 : decode cX0_awardOf 62 = .ok (.if_icmp .ne 8, 3) := by decide +kernel
theorem dX0_awardOf_65 : decode cX0_awardOf 65 = .ok (.iload 6, 2) := by decide +kernel
theorem dX0_awardOf_67 : decode cX0_awardOf 67 = .ok (.goto 14, 3) := by decide +kernel
theorem dX0_awardOf_70 : decode cX0_awardOf 70 = .ok (.iload 6, 2) := by decide +kernel
theorem dX0_awardOf_72 : decode cX0_awardOf 72 = .ok (.iload_n 1, 1) := by decide +kernel
theorem dX0_awardOf_73 : decode cX0_awardOf 73 = .ok (.iload_n 2, 1) := by decide +kernel
theorem dX0_awardOf_74 : decode cX0_awardOf 74 = .ok (.imul, 1) := by decide +kernel
theorem dX0_awardOf_75 : decode cX0_awardOf 75 = .ok (.bipush 100, 2) := by decide +kernel
theorem dX0_awardOf_77 : decode cX0_awardOf 77 = .ok (.idiv, 1) := by decide +kernel
theorem dX0_awardOf_78 : decode cX0_awardOf 78 = .ok (.invokestatic 100, 3) := by decide +kernel
theorem dX0_awardOf_81 : decode cX0_awardOf 81 = .ok (.ireturn, 1) := by decide +kernel
def rX0_awardOf : Room := { frames := 1, cells := 0, slots := 0, locals := 13 }
def vX0_awardOf_c28 (E0 : ES) (p1 : Int32) (p2 : Int32) (p3 : Int32) (x4 : Int32) (y0 : Int32) : Int32 := if (((e_home E0) ((2 : Int32)).toNatClampNeg) = 0) then (0 : Int32) else if (y0 = 0) then (if (x4 = (2 : Int32)) then (0 : Int32) else if (x4 = (1 : Int32)) then (jmin p3 p1) else (jmin (jmin p3 p1) ((p1 * p2) / (100 : Int32)))) else (0 : Int32)
def vX0_awardOf_c27 (E0 : ES) (p1 : Int32) (p2 : Int32) (p3 : Int32) (x4 : Int32) : Int32 := (vX0_awardOf_c28 E0 p1 p2 p3 x4 (0 : Int32))
def vX0_awardOf (E0 : ES) (p1 : Int32) (p2 : Int32) (p3 : Int32) : Int32 := if (((e_home E0) ((3 : Int32)).toNatClampNeg) = 0) then (if (((e_home E0) ((4 : Int32)).toNatClampNeg) = (1 : Int32)) then (vX0_awardOf_c27 E0 p1 p2 p3 ((e_home E0) ((4 : Int32)).toNatClampNeg)) else (vX0_awardOf_c28 E0 p1 p2 p3 ((e_home E0) ((4 : Int32)).toNatClampNeg) (1 : Int32))) else (vX0_awardOf_c27 E0 p1 p2 p3 ((e_home E0) ((4 : Int32)).toNatClampNeg))
set_option maxHeartbeats 4000000 in
set_option maxRecDepth 100000 in
theorem hX0_awardOf (l : Launch) (D : va_G) (K : JK) (G : JG) (a : Nat → Nat) (E0 : ES) (p1 : Int32) (p2 : Int32) (p3 : Int32) (sz : Nat) : Met l yX0_awardOf (.code yX0_awardOf cX0_awardOf 7 (some .int) :: jGW) rX0_awardOf (jPre D (jT K) G [.ref (a 0), .int p1, .int p2, .int p3] (wE K a E0) sz) (jQi D (jT K) (vX0_awardOf E0 p1 p2 p3) (wE K a E0) (va_A (wE K a E0) sz)) 0 0 (va_A (wE K a E0) sz) := by
  refine jEi (by decide) (Nat.le_of_ble_eq_true rfl) (fun p e s m below meth c A Q ls hat hP hD hS hl hend => ?_)
  obtain ⟨hx, hb, hml, hown, hts, hK, hZ, hA⟩ := hat
  have hl : lv_has ls 7 [(0, .ref (a 0)), (1, .int p1), (2, .int p2), (3, .int p3)] := hl
  have hc28 : ∀ (x4 : Int32) (y0 : Int32) (H : Heap) (locs : List Loc) (ls : Array Slot), (vX0_awardOf E0 p1 p2 p3) = vX0_awardOf_c28 E0 p1 p2 p3 x4 y0 → va_P D vwCl (wE K a E0) H → va_D A (wE K a E0) → va_S A s.heap H locs → lv_has ls 7 [(0, .ref (a 0)), (1, .int p1), (2, .int p2), (3, .int p3), (4, .int x4)] → W p l e rX0_awardOf s m ([.ref (a 0), .int p1, .int p2, .int p3] : List Value).toArray below meth c H locs 0 0 Q (F0 m 28 ls [.int y0]) := by
    intro x4 y0 H locs ls hV hP hD hS hl
    rw [vX0_awardOf_c28] at hV
    refine lv_istore (lv' := [(5, .int y0), (0, .ref (a 0)), (1, .int p1), (2, .int p2), (3, .int p3), (4, .int x4)]) hx hb dX0_awardOf_28 hl (by decide) rfl (fun ls hl => ?_)
    refine lv_aload_n hx hb dX0_awardOf_30 rfl (lv_at hl 1 rfl) ?_
    refine gf_X0_18 (v := .ref (a 1)) hx hb hts hown hK hZ hP (0) rfl rfl dX0_awardOf_31 ?_
    refine lv_iconst (v := (2 : Int32)) hx hb dX0_awardOf_34 (by decide) ?_
    refine va_iald hx hb hK hP (1) 0 rfl rfl (by unfold vp_in; decide) dX0_awardOf_35 ?_
    refine lv_if_eq (tgt := 50) hx hb dX0_awardOf_36 (by decide) (fun c7 => ?_) (fun c7 => ?_)
    · have hV := hV.trans (if_pos c7)
      refine lv_iconst (v := (0 : Int32)) hx hb dX0_awardOf_50 (by decide) ?_
      exact hend _ _ _ _ _ hP hD hS hV.symm rfl dX0_awardOf_51
    · have hV := hV.trans (if_neg c7)
      refine lv_iload hx hb dX0_awardOf_39 (lv_at hl 0 rfl) ?_
      refine lv_if_ne (tgt := 50) hx hb dX0_awardOf_41 (by decide) (fun c8 => ?_) (fun c8 => ?_)
      · have hV := hV.trans (if_neg c8)
        refine lv_iconst (v := (0 : Int32)) hx hb dX0_awardOf_50 (by decide) ?_
        exact hend _ _ _ _ _ hP hD hS hV.symm rfl dX0_awardOf_51
      · have hV := hV.trans (if_pos c8)
        refine lv_iload hx hb dX0_awardOf_44 (lv_at hl 5 rfl) ?_
        refine lv_iconst (v := (2 : Int32)) hx hb dX0_awardOf_46 (by decide) ?_
        refine lv_icmp_ne (tgt := 52) hx hb dX0_awardOf_47 (by decide) (fun c9 => ?_) (fun c9 => ?_)
        · have hV := hV.trans (if_neg c9)
          refine lv_iload_n hx hb dX0_awardOf_52 rfl (lv_at hl 4 rfl) ?_
          refine lv_iload_n hx hb dX0_awardOf_53 rfl (lv_at hl 2 rfl) ?_
          refine mmin_X0_100 hx hb (hml.trans hl.1.symm) hts hown (Nat.le_of_ble_eq_true rfl) (Nat.le_of_ble_eq_true rfl) (Nat.zero_le _) (Nat.zero_le _) dX0_awardOf_54 ?_
          refine lv_istore (lv' := [(6, .int (jmin p3 p1)), (5, .int y0), (0, .ref (a 0)), (1, .int p1), (2, .int p2), (3, .int p3), (4, .int x4)]) hx hb dX0_awardOf_57 hl (by decide) rfl (fun ls hl => ?_)
          refine lv_iload hx hb dX0_awardOf_59 (lv_at hl 6 rfl) ?_
          refine lv_iconst (v := (1 : Int32)) hx hb dX0_awardOf_61 (by decide) ?_
          refine lv_icmp_ne (tgt := 70) hx hb dX0_awardOf_62 (by decide) (fun c10 => ?_) (fun c10 => ?_)
          · have hV := hV.trans (if_neg c10)
            refine lv_iload hx hb dX0_awardOf_70 (lv_at hl 0 rfl) ?_
            refine lv_iload_n hx hb dX0_awardOf_72 rfl (lv_at hl 3 rfl) ?_
            refine lv_iload_n hx hb dX0_awardOf_73 rfl (lv_at hl 4 rfl) ?_
            refine lv_imul hx hb dX0_awardOf_74 ?_
            refine lv_bipush (v := (100 : Int32)) hx hb dX0_awardOf_75 (by decide) ?_
            refine lv_idiv hx hb dX0_awardOf_77 (by decide) ?_
            refine mmin_X0_100 hx hb (hml.trans hl.1.symm) hts hown (Nat.le_of_ble_eq_true rfl) (Nat.le_of_ble_eq_true rfl) (Nat.zero_le _) (Nat.zero_le _) dX0_awardOf_78 ?_
            exact hend _ _ _ _ _ hP hD hS hV.symm rfl dX0_awardOf_81
          · have hV := hV.trans (if_pos c10)
            refine lv_iload hx hb dX0_awardOf_65 (lv_at hl 0 rfl) ?_
            refine lv_goto (tgt := 81) hx hb dX0_awardOf_67 (by decide) ?_
            exact hend _ _ _ _ _ hP hD hS hV.symm rfl dX0_awardOf_81
        · have hV := hV.trans (if_pos c9)
          refine lv_iconst (v := (0 : Int32)) hx hb dX0_awardOf_50 (by decide) ?_
          exact hend _ _ _ _ _ hP hD hS hV.symm rfl dX0_awardOf_51
  have hc27 : ∀ (x4 : Int32) (H : Heap) (locs : List Loc) (ls : Array Slot), (vX0_awardOf E0 p1 p2 p3) = vX0_awardOf_c27 E0 p1 p2 p3 x4 → va_P D vwCl (wE K a E0) H → va_D A (wE K a E0) → va_S A s.heap H locs → lv_has ls 7 [(0, .ref (a 0)), (1, .int p1), (2, .int p2), (3, .int p3), (4, .int x4)] → W p l e rX0_awardOf s m ([.ref (a 0), .int p1, .int p2, .int p3] : List Value).toArray below meth c H locs 0 0 Q (F0 m 27 ls []) := by
    intro x4 H locs ls hV hP hD hS hl
    rw [vX0_awardOf_c27] at hV
    refine lv_iconst (v := (0 : Int32)) hx hb dX0_awardOf_27 (by decide) ?_
    exact hc28 x4 (0 : Int32) _ _ _ hV hP hD hS (lv_sub hl [0, 1, 2, 3, 4] rfl)
  have hV := vX0_awardOf.eq_1 E0 p1 p2 p3
  refine lv_aload_n hx hb dX0_awardOf_0 rfl (lv_at hl 0 rfl) ?_
  refine gf_X0_18 (v := .ref (a 1)) hx hb hts hown hK hZ hP (0) rfl rfl dX0_awardOf_1 ?_
  refine lv_iconst (v := (4 : Int32)) hx hb dX0_awardOf_4 (by decide) ?_
  refine va_iald hx hb hK hP (1) 0 rfl rfl (by unfold vp_in; decide) dX0_awardOf_5 ?_
  refine lv_istore (lv' := [(4, .int ((e_home E0) ((4 : Int32)).toNatClampNeg)), (0, .ref (a 0)), (1, .int p1), (2, .int p2), (3, .int p3)]) hx hb dX0_awardOf_6 hl (by decide) rfl (fun ls hl => ?_)
  refine lv_aload_n hx hb dX0_awardOf_8 rfl (lv_at hl 1 rfl) ?_
  refine gf_X0_18 (v := .ref (a 1)) hx hb hts hown hK hZ hP (0) rfl rfl dX0_awardOf_9 ?_
  refine lv_iconst (v := (3 : Int32)) hx hb dX0_awardOf_12 (by decide) ?_
  refine va_iald hx hb hK hP (1) 0 rfl rfl (by unfold vp_in; decide) dX0_awardOf_13 ?_
  refine lv_if_ne (tgt := 27) hx hb dX0_awardOf_14 (by decide) (fun c11 => ?_) (fun c11 => ?_)
  · have hV := hV.trans (if_neg c11)
    exact hc27 ((e_home E0) ((4 : Int32)).toNatClampNeg) _ _ _ hV hP hD hS (lv_sub hl [1, 2, 3, 4, 0] rfl)
  · have hV := hV.trans (if_pos c11)
    refine lv_iload hx hb dX0_awardOf_17 (lv_at hl 0 rfl) ?_
    refine lv_iconst (v := (1 : Int32)) hx hb dX0_awardOf_19 (by decide) ?_
    refine lv_icmp_eq (tgt := 27) hx hb dX0_awardOf_20 (by decide) (fun c12 => ?_) (fun c12 => ?_)
    · have hV := hV.trans (if_pos c12)
      exact hc27 ((e_home E0) ((4 : Int32)).toNatClampNeg) _ _ _ hV hP hD hS (lv_sub hl [1, 2, 3, 4, 0] rfl)
    · have hV := hV.trans (if_neg c12)
      refine lv_iconst (v := (1 : Int32)) hx hb dX0_awardOf_23 (by decide) ?_
      refine lv_goto (tgt := 28) hx hb dX0_awardOf_24 (by decide) ?_
      exact hc28 ((e_home E0) ((4 : Int32)).toNatClampNeg) (1 : Int32) _ _ _ hV hP hD hS (lv_sub hl [1, 2, 3, 4, 0] rfl)
theorem dX0_award_0 : decode cX0_award 0 = .ok (.aload_n 0, 1) := by decide +kernel
theorem dX0_award_1 : decode cX0_award 1 = .ok (.iload_n 1, 1) := by decide +kernel
theorem dX0_award_2 : decode cX0_award 2 = .ok (.iconst 0, 1) := by decide +kernel
theorem dX0_award_3 : decode cX0_award 3 = .ok (.invokevirtual 58, 3) := by decide +kernel
theorem dX0_award_6 : decode cX0_award 6 = .ok (.aload_n 0, 1) := by decide +kernel
theorem dX0_award_7 : decode cX0_award 7 = .ok (.iload_n 1, 1) := by decide +kernel
theorem dX0_award_8 : decode cX0_award 8 = .ok (.iconst 1, 1) := by decide +kernel
theorem dX0_award_9 : decode cX0_award 9 = .ok (.invokevirtual 58, 3) := by decide +kernel
theorem dX0_award_12 : decode cX0_award 12 = .ok (.aload_n 0, 1) := by decide +kernel
theorem dX0_award_13 : decode cX0_award 13 = .ok (.iload_n 1, 1) := by decide +kernel
theorem dX0_award_14 : decode cX0_award 14 = .ok (.iconst 2, 1) := by decide +kernel
theorem dX0_award_15 : decode cX0_award 15 = .ok (.invokevirtual 58, 3) := by decide +kernel
theorem dX0_award_18 : decode cX0_award 18 = .ok (.invokestatic 84, 3) := by decide +kernel
theorem dX0_award_21 : decode cX0_award 21 = .ok (.istore_n 2, 1) := by decide +kernel
theorem dX0_award_22 : decode cX0_award 22 = .ok (.aload_n 0, 1) := by decide +kernel
theorem dX0_award_23 : decode cX0_award 23 = .ok (.iload_n 2, 1) := by decide +kernel
theorem dX0_award_24 : decode cX0_award 24 = .ok (.aload_n 0, 1) := by decide +kernel
theorem dX0_award_25 : decode cX0_award 25 = .ok (.iload_n 1, 1) := by decide +kernel
theorem dX0_award_26 : decode cX0_award 26 = .ok (.invokevirtual 74, 3) := by decide +kernel
theorem dX0_award_29 : decode cX0_award 29 = .ok (.aload_n 0, 1) := by decide +kernel
theorem dX0_award_30 : decode cX0_award 30 = .ok (.iload_n 1, 1) := by decide +kernel
theorem dX0_award_31 : decode cX0_award 31 = .ok (.bipush 6, 2) := by decide +kernel
theorem dX0_award_33 : decode cX0_award 33 = .ok (.invokevirtual 58, 3) := by decide +kernel
theorem dX0_award_36 : decode cX0_award 36 = .ok (.invokevirtual 97, 3) := by decide +kernel
theorem dX0_award_39 : decode cX0_award 39 = .ok (.ireturn, 1) := by decide +kernel
def rX0_award : Room := { frames := 3, cells := 0, slots := 0, locals := 64 }
def vX0_award (E0 : ES) (p1 : Int32) : Int32 := (vX0_awardOf E0 (vX1_worth (vX0_trait E0 p1 (0 : Int32)) (vX0_trait E0 p1 (1 : Int32)) (vX0_trait E0 p1 (2 : Int32))) (vX0_worse E0 p1) (vX0_trait E0 p1 (6 : Int32)))
def kX0_award (E0 : ES) (p1 : Int32) : Prop := (kX0_trait E0 p1 (0 : Int32)) ∧ (kX0_trait E0 p1 (1 : Int32)) ∧ (kX0_trait E0 p1 (2 : Int32)) ∧ (kX1_worth (vX0_trait E0 p1 (0 : Int32)) (vX0_trait E0 p1 (1 : Int32)) (vX0_trait E0 p1 (2 : Int32))) ∧ (kX0_worse E0 p1) ∧ (kX0_trait E0 p1 (6 : Int32)) ∧ True
set_option maxHeartbeats 4000000 in
set_option maxRecDepth 100000 in
theorem hX0_award (l : Launch) (D : va_G) (K : JK) (G : JG) (a : Nat → Nat) (E0 : ES) (p1 : Int32) (hk : kX0_award E0 p1) (sz : Nat) : Met l yX0_award (.code yX0_award cX0_award 3 (some .int) :: jGW) rX0_award (jPre D (jT K) G [.ref (a 0), .int p1] (wE K a E0) sz) (jQi D (jT K) (vX0_award E0 p1) (wE K a E0) (va_A (wE K a E0) sz)) 0 0 (va_A (wE K a E0) sz) := by
  refine jEi (by decide) (Nat.le_of_ble_eq_true rfl) (fun p e s m below meth c A Q ls hat hP hD hS hl hend => ?_)
  obtain ⟨hx, hb, hml, hown, hts, hK, hZ, hA⟩ := hat
  have hl : lv_has ls 3 [(0, .ref (a 0)), (1, .int p1)] := hl
  have hV := vX0_award.eq_1 E0 p1
  rw [kX0_award] at hk
  refine lv_aload_n hx hb dX0_award_0 rfl (lv_at hl 0 rfl) ?_
  refine lv_iload_n hx hb dX0_award_1 rfl (lv_at hl 1 rfl) ?_
  refine lv_iconst (v := (0 : Int32)) hx hb dX0_award_2 (by decide) ?_
  obtain ⟨h7, hk⟩ := hk
  refine jci0 (jrunV (As := [.int p1, .int (0 : Int32)]) (rest := []) hx hb hml hown hts hK hZ hA hP hD hS hl.1 mf_X0_trait kl_X0_58 ⟨rfl, rfl, Nat.le_of_ble_eq_true rfl, Nat.le_of_ble_eq_true rfl⟩ ⟨Nat.zero_le _, Nat.zero_le _⟩ [0, 1, 2, 3, 4] rfl rfl rfl rfl rfl (hX0_trait l D K G a E0 p1 (0 : Int32) h7 _) rfl rfl (Nat.le_of_ble_eq_true rfl) dX0_award_3) hA hP hD hS [0, 1, 2, 3, 4] rfl (fun H locs hP hS => ?_)
  refine lv_aload_n hx hb dX0_award_6 rfl (lv_at hl 0 rfl) ?_
  refine lv_iload_n hx hb dX0_award_7 rfl (lv_at hl 1 rfl) ?_
  refine lv_iconst (v := (1 : Int32)) hx hb dX0_award_8 (by decide) ?_
  obtain ⟨h8, hk⟩ := hk
  refine jci0 (jrunV (As := [.int p1, .int (1 : Int32)]) (rest := [.int (vX0_trait E0 p1 (0 : Int32))]) hx hb hml hown hts hK hZ hA hP hD hS hl.1 mf_X0_trait kl_X0_58 ⟨rfl, rfl, Nat.le_of_ble_eq_true rfl, Nat.le_of_ble_eq_true rfl⟩ ⟨Nat.zero_le _, Nat.zero_le _⟩ [0, 1, 2, 3, 4] rfl rfl rfl rfl rfl (hX0_trait l D K G a E0 p1 (1 : Int32) h8 _) rfl rfl (Nat.le_of_ble_eq_true rfl) dX0_award_9) hA hP hD hS [0, 1, 2, 3, 4] rfl (fun H locs hP hS => ?_)
  refine lv_aload_n hx hb dX0_award_12 rfl (lv_at hl 0 rfl) ?_
  refine lv_iload_n hx hb dX0_award_13 rfl (lv_at hl 1 rfl) ?_
  refine lv_iconst (v := (2 : Int32)) hx hb dX0_award_14 (by decide) ?_
  obtain ⟨h9, hk⟩ := hk
  refine jci0 (jrunV (As := [.int p1, .int (2 : Int32)]) (rest := [.int (vX0_trait E0 p1 (1 : Int32)), .int (vX0_trait E0 p1 (0 : Int32))]) hx hb hml hown hts hK hZ hA hP hD hS hl.1 mf_X0_trait kl_X0_58 ⟨rfl, rfl, Nat.le_of_ble_eq_true rfl, Nat.le_of_ble_eq_true rfl⟩ ⟨Nat.zero_le _, Nat.zero_le _⟩ [0, 1, 2, 3, 4] rfl rfl rfl rfl rfl (hX0_trait l D K G a E0 p1 (2 : Int32) h9 _) rfl rfl (Nat.le_of_ble_eq_true rfl) dX0_award_15) hA hP hD hS [0, 1, 2, 3, 4] rfl (fun H locs hP hS => ?_)
  obtain ⟨h10, hk⟩ := hk
  refine jci0 (jrunS (As := [.int (vX0_trait E0 p1 (0 : Int32)), .int (vX0_trait E0 p1 (1 : Int32)), .int (vX0_trait E0 p1 (2 : Int32))]) (rest := []) hx hb hml hown hts hK hZ hA hP hD hS hl.1 mf_X1_worth kl_X0_84 ⟨rfl, rfl, Nat.le_of_ble_eq_true rfl, Nat.le_of_ble_eq_true rfl⟩ ⟨Nat.zero_le _, Nat.zero_le _⟩ [] rfl rfl (hX1_worth l D K G (vX0_trait E0 p1 (0 : Int32)) (vX0_trait E0 p1 (1 : Int32)) (vX0_trait E0 p1 (2 : Int32)) h10 _) rfl rfl (Nat.le_of_ble_eq_true rfl) dX0_award_18) hA hP hD hS [] rfl (fun H locs hP hS => ?_)
  refine lv_istore_n (lv' := [(2, .int (vX1_worth (vX0_trait E0 p1 (0 : Int32)) (vX0_trait E0 p1 (1 : Int32)) (vX0_trait E0 p1 (2 : Int32)))), (0, .ref (a 0)), (1, .int p1)]) hx hb dX0_award_21 rfl hl (by decide) rfl (fun ls hl => ?_)
  refine lv_aload_n hx hb dX0_award_22 rfl (lv_at hl 1 rfl) ?_
  refine lv_iload_n hx hb dX0_award_23 rfl (lv_at hl 0 rfl) ?_
  refine lv_aload_n hx hb dX0_award_24 rfl (lv_at hl 1 rfl) ?_
  refine lv_iload_n hx hb dX0_award_25 rfl (lv_at hl 2 rfl) ?_
  obtain ⟨h11, hk⟩ := hk
  refine jci0 (jrunV (As := [.int p1]) (rest := [.int (vX1_worth (vX0_trait E0 p1 (0 : Int32)) (vX0_trait E0 p1 (1 : Int32)) (vX0_trait E0 p1 (2 : Int32))), .ref (a 0)]) hx hb hml hown hts hK hZ hA hP hD hS hl.1 mf_X0_worse kl_X0_74 ⟨rfl, rfl, Nat.le_of_ble_eq_true rfl, Nat.le_of_ble_eq_true rfl⟩ ⟨Nat.zero_le _, Nat.zero_le _⟩ [0, 1, 2, 3, 4] rfl rfl rfl rfl rfl (hX0_worse l D K G a E0 p1 h11 _) rfl rfl (Nat.le_of_ble_eq_true rfl) dX0_award_26) hA hP hD hS [0, 1, 2, 3, 4] rfl (fun H locs hP hS => ?_)
  refine lv_aload_n hx hb dX0_award_29 rfl (lv_at hl 1 rfl) ?_
  refine lv_iload_n hx hb dX0_award_30 rfl (lv_at hl 2 rfl) ?_
  refine lv_bipush (v := (6 : Int32)) hx hb dX0_award_31 (by decide) ?_
  obtain ⟨h12, hk⟩ := hk
  refine jci0 (jrunV (As := [.int p1, .int (6 : Int32)]) (rest := [.int (vX0_worse E0 p1), .int (vX1_worth (vX0_trait E0 p1 (0 : Int32)) (vX0_trait E0 p1 (1 : Int32)) (vX0_trait E0 p1 (2 : Int32))), .ref (a 0)]) hx hb hml hown hts hK hZ hA hP hD hS hl.1 mf_X0_trait kl_X0_58 ⟨rfl, rfl, Nat.le_of_ble_eq_true rfl, Nat.le_of_ble_eq_true rfl⟩ ⟨Nat.zero_le _, Nat.zero_le _⟩ [0, 1, 2, 3, 4] rfl rfl rfl rfl rfl (hX0_trait l D K G a E0 p1 (6 : Int32) h12 _) rfl rfl (Nat.le_of_ble_eq_true rfl) dX0_award_33) hA hP hD hS [0, 1, 2, 3, 4] rfl (fun H locs hP hS => ?_)
  refine jci0 (jrunV (As := [.int (vX1_worth (vX0_trait E0 p1 (0 : Int32)) (vX0_trait E0 p1 (1 : Int32)) (vX0_trait E0 p1 (2 : Int32))), .int (vX0_worse E0 p1), .int (vX0_trait E0 p1 (6 : Int32))]) (rest := []) hx hb hml hown hts hK hZ hA hP hD hS hl.1 mf_X0_awardOf kl_X0_97 ⟨rfl, rfl, Nat.le_of_ble_eq_true rfl, Nat.le_of_ble_eq_true rfl⟩ ⟨Nat.zero_le _, Nat.zero_le _⟩ [0, 1, 2, 3, 4] rfl rfl rfl rfl rfl (hX0_awardOf l D K G a E0 (vX1_worth (vX0_trait E0 p1 (0 : Int32)) (vX0_trait E0 p1 (1 : Int32)) (vX0_trait E0 p1 (2 : Int32))) (vX0_worse E0 p1) (vX0_trait E0 p1 (6 : Int32)) _) rfl rfl (Nat.le_of_ble_eq_true rfl) dX0_award_36) hA hP hD hS [0, 1, 2, 3, 4] rfl (fun H locs hP hS => ?_)
  exact hend _ _ _ _ _ hP hD hS hV.symm rfl dX0_award_39
theorem dX0_offersMeet_0 : decode cX0_offersMeet 0 = .ok (.aload_n 0, 1) := by decide +kernel
theorem dX0_offersMeet_1 : decode cX0_offersMeet 1 = .ok (.getfield 18, 3) := by decide +kernel
theorem dX0_offersMeet_4 : decode cX0_offersMeet 4 = .ok (.iconst 5, 1) := by decide +kernel
theorem dX0_offersMeet_5 : decode cX0_offersMeet 5 = .ok (.iaload, 1) := by decide +kernel
theorem dX0_offersMeet_6 : decode cX0_offersMeet 6 = .ok (.ifCond .le 23, 3) := by decide +kernel
theorem dX0_offersMeet_9 : decode cX0_offersMeet 9 = .ok (.aload_n 0, 1) := by decide +kernel
theorem dX0_offersMeet_10 : decode cX0_offersMeet 10 = .ok (.getfield 18, 3) := by decide +kernel
theorem dX0_offersMeet_13 : decode cX0_offersMeet 13 = .ok (.bipush 6, 2) := by decide +kernel
theorem dX0_offersMeet_15 : decode cX0_offersMeet 15 = .ok (.iaload, 1) := by decide +kernel
theorem dX0_offersMeet_16 : decode cX0_offersMeet 16 = .ok (.aload_n 0, 1) := by decide +kernel
theorem dX0_offersMeet_17 : decode cX0_offersMeet 17 = .ok (.getfield 18, 3) := by decide +kernel
theorem dX0_offersMeet_20 : decode cX0_offersMeet 20 = .ok (.iconst 5, 1) := by decide +kernel
theorem dX0_offersMeet_21 : decode cX0_offersMeet 21 = .ok (.iaload, 1) := by decide +kernel
theorem dX0_offersMeet_22 : decode cX0_offersMeet 22 = .ok (.if_icmp .lt 7, 3) := by decide +kernel
theorem dX0_offersMeet_25 : decode cX0_offersMeet 25 = .ok (.iconst 1, 1) := by decide +kernel
theorem dX0_offersMeet_26 : decode cX0_offersMeet 26 = .ok (.goto 4, 3) := by decide +kernel
theorem dX0_offersMeet_29 : decode cX0_offersMeet 29 = .ok (.iconst 0, 1) := by decide +kernel
theorem dX0_offersMeet_30 : decode cX0_offersMeet 30 = .ok (.ireturn, 1) := by decide +kernel
def rX0_offersMeet : Room := { frames := 0, cells := 0, slots := 0, locals := 0 }
def vX0_offersMeet (E0 : ES) : Int32 := if (((e_home E0) ((5 : Int32)).toNatClampNeg) ≤ 0) then (0 : Int32) else if (((e_home E0) ((6 : Int32)).toNatClampNeg) < ((e_home E0) ((5 : Int32)).toNatClampNeg)) then (0 : Int32) else (1 : Int32)
set_option maxHeartbeats 4000000 in
set_option maxRecDepth 100000 in
theorem hX0_offersMeet (l : Launch) (D : va_G) (K : JK) (G : JG) (a : Nat → Nat) (E0 : ES) (sz : Nat) : Met l yX0_offersMeet (.code yX0_offersMeet cX0_offersMeet 1 (some .boolean) :: jGW) rX0_offersMeet (jPre D (jT K) G [.ref (a 0)] (wE K a E0) sz) (jQi D (jT K) (vX0_offersMeet E0) (wE K a E0) (va_A (wE K a E0) sz)) 0 0 (va_A (wE K a E0) sz) := by
  refine jEi (by decide) (Nat.le_of_ble_eq_true rfl) (fun p e s m below meth c A Q ls hat hP hD hS hl hend => ?_)
  obtain ⟨hx, hb, hml, hown, hts, hK, hZ, hA⟩ := hat
  have hl : lv_has ls 1 [(0, .ref (a 0))] := hl
  have hV := vX0_offersMeet.eq_1 E0
  refine lv_aload_n hx hb dX0_offersMeet_0 rfl (lv_at hl 0 rfl) ?_
  refine gf_X0_18 (v := .ref (a 1)) hx hb hts hown hK hZ hP (0) rfl rfl dX0_offersMeet_1 ?_
  refine lv_iconst (v := (5 : Int32)) hx hb dX0_offersMeet_4 (by decide) ?_
  refine va_iald hx hb hK hP (1) 0 rfl rfl (by unfold vp_in; decide) dX0_offersMeet_5 ?_
  refine lv_if_le (tgt := 29) hx hb dX0_offersMeet_6 (by decide) (fun c3 => ?_) (fun c3 => ?_)
  · have hV := hV.trans (if_pos c3)
    refine lv_iconst (v := (0 : Int32)) hx hb dX0_offersMeet_29 (by decide) ?_
    exact hend _ _ _ _ _ hP hD hS hV.symm rfl dX0_offersMeet_30
  · have hV := hV.trans (if_neg c3)
    refine lv_aload_n hx hb dX0_offersMeet_9 rfl (lv_at hl 0 rfl) ?_
    refine gf_X0_18 (v := .ref (a 1)) hx hb hts hown hK hZ hP (0) rfl rfl dX0_offersMeet_10 ?_
    refine lv_bipush (v := (6 : Int32)) hx hb dX0_offersMeet_13 (by decide) ?_
    refine va_iald hx hb hK hP (1) 0 rfl rfl (by unfold vp_in; decide) dX0_offersMeet_15 ?_
    refine lv_aload_n hx hb dX0_offersMeet_16 rfl (lv_at hl 0 rfl) ?_
    refine gf_X0_18 (v := .ref (a 1)) hx hb hts hown hK hZ hP (0) rfl rfl dX0_offersMeet_17 ?_
    refine lv_iconst (v := (5 : Int32)) hx hb dX0_offersMeet_20 (by decide) ?_
    refine va_iald hx hb hK hP (1) 0 rfl rfl (by unfold vp_in; decide) dX0_offersMeet_21 ?_
    refine lv_icmp_lt (tgt := 29) hx hb dX0_offersMeet_22 (by decide) (fun c4 => ?_) (fun c4 => ?_)
    · have hV := hV.trans (if_pos c4)
      refine lv_iconst (v := (0 : Int32)) hx hb dX0_offersMeet_29 (by decide) ?_
      exact hend _ _ _ _ _ hP hD hS hV.symm rfl dX0_offersMeet_30
    · have hV := hV.trans (if_neg c4)
      refine lv_iconst (v := (1 : Int32)) hx hb dX0_offersMeet_25 (by decide) ?_
      refine lv_goto (tgt := 30) hx hb dX0_offersMeet_26 (by decide) ?_
      exact hend _ _ _ _ _ hP hD hS hV.symm rfl dX0_offersMeet_30
theorem dX0_awardedOf_0 : decode cX0_awardedOf 0 = .ok (.aload_n 0, 1) := by decide +kernel
theorem dX0_awardedOf_1 : decode cX0_awardedOf 1 = .ok (.invokevirtual 106, 3) := by decide +kernel
theorem dX0_awardedOf_4 : decode cX0_awardedOf 4 = .ok (.ifCond .eq 22, 3) := by decide +kernel
theorem dX0_awardedOf_7 : decode cX0_awardedOf 7 = .ok (.aload_n 0, 1) := by decide +kernel
theorem dX0_awardedOf_8 : decode cX0_awardedOf 8 = .ok (.getfield 18, 3) := by decide +kernel
theorem dX0_awardedOf_11 : decode cX0_awardedOf 11 = .ok (.iconst 5, 1) := by decide +kernel
theorem dX0_awardedOf_12 : decode cX0_awardedOf 12 = .ok (.iaload, 1) := by decide +kernel
theorem dX0_awardedOf_13 : decode cX0_awardedOf 13 = .ok (.aload_n 0, 1) := by decide +kernel
theorem dX0_awardedOf_14 : decode cX0_awardedOf 14 = .ok (.getfield 18, 3) := by decide +kernel
theorem dX0_awardedOf_17 : decode cX0_awardedOf 17 = .ok (.bipush 6, 2) := by decide +kernel
theorem dX0_awardedOf_19 : decode cX0_awardedOf 19 = .ok (.iaload, 1) := by decide +kernel
theorem dX0_awardedOf_20 : decode cX0_awardedOf 20 = .ok (.iadd, 1) := by decide +kernel
theorem dX0_awardedOf_21 : decode cX0_awardedOf 21 = .ok (.iconst 2, 1) := by decide +kernel
theorem dX0_awardedOf_22 : decode cX0_awardedOf 22 = .ok (.idiv, 1) := by decide +kernel
theorem dX0_awardedOf_23 : decode cX0_awardedOf 23 = .ok (.goto 4, 3) := by decide +kernel
theorem dX0_awardedOf_26 : decode cX0_awardedOf 26 = .ok (.iload_n 1, 1) := by decide +kernel
theorem dX0_awardedOf_27 : decode cX0_awardedOf 27 = .ok (.istore_n 2, 1) := by decide +kernel
theorem dX0_awardedOf_28 : decode cX0_awardedOf 28 = .ok (.iload_n 2, 1) := by decide +kernel
theorem dX0_awardedOf_29 : decode cX0_awardedOf 29 = .ok (.aload_n 0, 1) := by decide +kernel
theorem dX0_awardedOf_30 : decode cX0_awardedOf 30 = .ok (.getfield 18, 3) := by decide +kernel
theorem dX0_awardedOf_33 : decode cX0_awardedOf 33 = .ok (.iconst 0, 1) := by decide +kernel
theorem dX0_awardedOf_34 : decode cX0_awardedOf 34 = .ok (.iaload, 1) := by decide +kernel
theorem dX0_awardedOf_35 : decode cX0_awardedOf 35 = .ok (.invokestatic 100, 3) := by decide +kernel
theorem dX0_awardedOf_38 : decode cX0_awardedOf 38 = .ok (.ireturn, 1) := by decide +kernel
def rX0_awardedOf : Room := { frames := 1, cells := 0, slots := 0, locals := 20 }
def vX0_awardedOf_c27 (E0 : ES) (p1 : Int32) (y0 : Int32) : Int32 := (jmin y0 ((e_home E0) ((0 : Int32)).toNatClampNeg))
def vX0_awardedOf (E0 : ES) (p1 : Int32) : Int32 := if ((vX0_offersMeet E0) = 0) then (vX0_awardedOf_c27 E0 p1 p1) else (vX0_awardedOf_c27 E0 p1 ((((e_home E0) ((5 : Int32)).toNatClampNeg) + ((e_home E0) ((6 : Int32)).toNatClampNeg)) / (2 : Int32)))
set_option maxHeartbeats 4000000 in
set_option maxRecDepth 100000 in
theorem hX0_awardedOf (l : Launch) (D : va_G) (K : JK) (G : JG) (a : Nat → Nat) (E0 : ES) (p1 : Int32) (sz : Nat) : Met l yX0_awardedOf (.code yX0_awardedOf cX0_awardedOf 3 (some .int) :: jGW) rX0_awardedOf (jPre D (jT K) G [.ref (a 0), .int p1] (wE K a E0) sz) (jQi D (jT K) (vX0_awardedOf E0 p1) (wE K a E0) (va_A (wE K a E0) sz)) 0 0 (va_A (wE K a E0) sz) := by
  refine jEi (by decide) (Nat.le_of_ble_eq_true rfl) (fun p e s m below meth c A Q ls hat hP hD hS hl hend => ?_)
  obtain ⟨hx, hb, hml, hown, hts, hK, hZ, hA⟩ := hat
  have hl : lv_has ls 3 [(0, .ref (a 0)), (1, .int p1)] := hl
  have hc27 : ∀ (y0 : Int32) (H : Heap) (locs : List Loc) (ls : Array Slot), (vX0_awardedOf E0 p1) = vX0_awardedOf_c27 E0 p1 y0 → va_P D vwCl (wE K a E0) H → va_D A (wE K a E0) → va_S A s.heap H locs → lv_has ls 3 [(0, .ref (a 0)), (1, .int p1)] → W p l e rX0_awardedOf s m ([.ref (a 0), .int p1] : List Value).toArray below meth c H locs 0 0 Q (F0 m 27 ls [.int y0]) := by
    intro y0 H locs ls hV hP hD hS hl
    rw [vX0_awardedOf_c27] at hV
    refine lv_istore_n (lv' := [(2, .int y0), (0, .ref (a 0)), (1, .int p1)]) hx hb dX0_awardedOf_27 rfl hl (by decide) rfl (fun ls hl => ?_)
    refine lv_iload_n hx hb dX0_awardedOf_28 rfl (lv_at hl 0 rfl) ?_
    refine lv_aload_n hx hb dX0_awardedOf_29 rfl (lv_at hl 1 rfl) ?_
    refine gf_X0_18 (v := .ref (a 1)) hx hb hts hown hK hZ hP (0) rfl rfl dX0_awardedOf_30 ?_
    refine lv_iconst (v := (0 : Int32)) hx hb dX0_awardedOf_33 (by decide) ?_
    refine va_iald hx hb hK hP (1) 0 rfl rfl (by unfold vp_in; decide) dX0_awardedOf_34 ?_
    refine mmin_X0_100 hx hb (hml.trans hl.1.symm) hts hown (Nat.le_of_ble_eq_true rfl) (Nat.le_of_ble_eq_true rfl) (Nat.zero_le _) (Nat.zero_le _) dX0_awardedOf_35 ?_
    exact hend _ _ _ _ _ hP hD hS hV.symm rfl dX0_awardedOf_38
  have hV := vX0_awardedOf.eq_1 E0 p1
  refine lv_aload_n hx hb dX0_awardedOf_0 rfl (lv_at hl 0 rfl) ?_
  refine jci0 (jrunV (As := []) (rest := []) hx hb hml hown hts hK hZ hA hP hD hS hl.1 mf_X0_offersMeet kl_X0_106 ⟨rfl, rfl, Nat.le_of_ble_eq_true rfl, Nat.le_of_ble_eq_true rfl⟩ ⟨Nat.zero_le _, Nat.zero_le _⟩ [0, 1, 2, 3, 4] rfl rfl rfl rfl rfl (hX0_offersMeet l D K G a E0 _) rfl rfl (Nat.le_of_ble_eq_true rfl) dX0_awardedOf_1) hA hP hD hS [0, 1, 2, 3, 4] rfl (fun H locs hP hS => ?_)
  refine lv_if_eq (tgt := 26) hx hb dX0_awardedOf_4 (by decide) (fun c2 => ?_) (fun c2 => ?_)
  · have hV := hV.trans (if_pos c2)
    refine lv_iload_n hx hb dX0_awardedOf_26 rfl (lv_at hl 1 rfl) ?_
    exact hc27 p1 _ _ _ hV hP hD hS (lv_sub hl [0, 1] rfl)
  · have hV := hV.trans (if_neg c2)
    refine lv_aload_n hx hb dX0_awardedOf_7 rfl (lv_at hl 0 rfl) ?_
    refine gf_X0_18 (v := .ref (a 1)) hx hb hts hown hK hZ hP (0) rfl rfl dX0_awardedOf_8 ?_
    refine lv_iconst (v := (5 : Int32)) hx hb dX0_awardedOf_11 (by decide) ?_
    refine va_iald hx hb hK hP (1) 0 rfl rfl (by unfold vp_in; decide) dX0_awardedOf_12 ?_
    refine lv_aload_n hx hb dX0_awardedOf_13 rfl (lv_at hl 0 rfl) ?_
    refine gf_X0_18 (v := .ref (a 1)) hx hb hts hown hK hZ hP (0) rfl rfl dX0_awardedOf_14 ?_
    refine lv_bipush (v := (6 : Int32)) hx hb dX0_awardedOf_17 (by decide) ?_
    refine va_iald hx hb hK hP (1) 0 rfl rfl (by unfold vp_in; decide) dX0_awardedOf_19 ?_
    refine lv_iadd hx hb dX0_awardedOf_20 ?_
    refine lv_iconst (v := (2 : Int32)) hx hb dX0_awardedOf_21 (by decide) ?_
    refine lv_idiv hx hb dX0_awardedOf_22 (by decide) ?_
    refine lv_goto (tgt := 27) hx hb dX0_awardedOf_23 (by decide) ?_
    exact hc27 ((((e_home E0) ((5 : Int32)).toNatClampNeg) + ((e_home E0) ((6 : Int32)).toNatClampNeg)) / (2 : Int32)) _ _ _ hV hP hD hS (lv_sub hl [0, 1] rfl)
theorem dX0_awarded_0 : decode cX0_awarded 0 = .ok (.iconst 0, 1) := by decide +kernel
theorem dX0_awarded_1 : decode cX0_awarded 1 = .ok (.istore_n 1, 1) := by decide +kernel
theorem dX0_awarded_2 : decode cX0_awarded 2 = .ok (.iconst 0, 1) := by decide +kernel
theorem dX0_awarded_3 : decode cX0_awarded 3 = .ok (.istore_n 2, 1) := by decide +kernel
theorem dX0_awarded_4 : decode cX0_awarded 4 = .ok (.iload_n 2, 1) := by decide +kernel
theorem dX0_awarded_5 : decode cX0_awarded 5 = .ok (.aload_n 0, 1) := by decide +kernel
theorem dX0_awarded_6 : decode cX0_awarded 6 = .ok (.getfield 32, 3) := by decide +kernel
theorem dX0_awarded_9 : decode cX0_awarded 9 = .ok (.if_icmp .ge 17, 3) := by decide +kernel
theorem dX0_awarded_12 : decode cX0_awarded 12 = .ok (.iload_n 1, 1) := by decide +kernel
theorem dX0_awarded_13 : decode cX0_awarded 13 = .ok (.aload_n 0, 1) := by decide +kernel
theorem dX0_awarded_14 : decode cX0_awarded 14 = .ok (.iload_n 2, 1) := by decide +kernel
theorem dX0_awarded_15 : decode cX0_awarded 15 = .ok (.invokevirtual 77, 3) := by decide +kernel
theorem dX0_awarded_18 : decode cX0_awarded 18 = .ok (.iadd, 1) := by decide +kernel
theorem dX0_awarded_19 : decode cX0_awarded 19 = .ok (.istore_n 1, 1) := by decide +kernel
theorem dX0_awarded_20 : decode cX0_awarded 20 = .ok (.iinc 2 1, 3) := by decide +kernel
theorem dX0_awarded_23 : decode cX0_awarded 23 = .ok (.goto (-19), 3) := by decide +kernel
theorem dX0_awarded_26 : decode cX0_awarded 26 = .ok (.aload_n 0, 1) := by decide +kernel
theorem dX0_awarded_27 : decode cX0_awarded 27 = .ok (.iload_n 1, 1) := by decide +kernel
theorem dX0_awarded_28 : decode cX0_awarded 28 = .ok (.invokevirtual 103, 3) := by decide +kernel
theorem dX0_awarded_31 : decode cX0_awarded 31 = .ok (.ireturn, 1) := by decide +kernel
def rX0_awarded : Room := { frames := 4, cells := 0, slots := 0, locals := 86 }
def vX0_awarded_c4 (E0 : ES) : Nat → Int32 → Int32 → Int32
  | 0, x1, x2 => (0)
  | n + 1, x1, x2 => if ((e_things E0) ≤ x2) then (vX0_awardedOf E0 x1) else (vX0_awarded_c4 E0 n (x1 + (vX0_award E0 x2)) (x2 + (1 : Int32)))
def kX0_awarded_c4 (E0 : ES) : Nat → Int32 → Int32 → Prop
  | 0, _, _ => False
  | n + 1, x1, x2 => (((e_things E0) ≤ x2) → True) ∧ (¬ ((e_things E0) ≤ x2) → ((kX0_award E0 x2) ∧ (kX0_awarded_c4 E0 n (x1 + (vX0_award E0 x2)) (x2 + (1 : Int32)))))
def vX0_awarded (E0 : ES) : Int32 := (vX0_awarded_c4 E0 1024 (0 : Int32) (0 : Int32))
def kX0_awarded (E0 : ES) : Prop := (kX0_awarded_c4 E0 1024 (0 : Int32) (0 : Int32))
set_option maxHeartbeats 4000000 in
set_option maxRecDepth 100000 in
theorem hX0_awarded (l : Launch) (D : va_G) (K : JK) (G : JG) (a : Nat → Nat) (E0 : ES) (hk : kX0_awarded E0) (sz : Nat) : Met l yX0_awarded (.code yX0_awarded cX0_awarded 3 (some .int) :: jGW) rX0_awarded (jPre D (jT K) G [.ref (a 0)] (wE K a E0) sz) (jQi D (jT K) (vX0_awarded E0) (wE K a E0) (va_A (wE K a E0) sz)) 0 0 (va_A (wE K a E0) sz) := by
  refine jEi (by decide) (Nat.le_of_ble_eq_true rfl) (fun p e s m below meth c A Q ls hat hP hD hS hl hend => ?_)
  obtain ⟨hx, hb, hml, hown, hts, hK, hZ, hA⟩ := hat
  have hl : lv_has ls 3 [(0, .ref (a 0))] := hl
  have hc4 : ∀ (n : Nat) (x1 : Int32) (x2 : Int32) (H : Heap) (locs : List Loc) (ls : Array Slot), (vX0_awarded E0) = vX0_awarded_c4 E0 n x1 x2 → kX0_awarded_c4 E0 n x1 x2 → va_P D vwCl (wE K a E0) H → va_D A (wE K a E0) → va_S A s.heap H locs → lv_has ls 3 [(0, .ref (a 0)), (1, .int x1), (2, .int x2)] → W p l e rX0_awarded s m ([.ref (a 0)] : List Value).toArray below meth c H locs 0 0 Q (F0 m 4 ls []) := by
    intro n
    induction n with
    | zero =>
      intro x1 x2 H locs ls hV hk hP hD hS hl
      exact False.elim hk
    | succ n ih =>
      intro x1 x2 H locs ls hV hk hP hD hS hl
      rw [vX0_awarded_c4] at hV
      rw [kX0_awarded_c4] at hk
      refine lv_iload_n hx hb dX0_awarded_4 rfl (lv_at hl 2 rfl) ?_
      refine lv_aload_n hx hb dX0_awarded_5 rfl (lv_at hl 0 rfl) ?_
      refine gf_X0_32 (v := .int (e_things E0)) hx hb hts hown hK hZ hP (0) rfl rfl dX0_awarded_6 ?_
      refine lv_icmp_ge (tgt := 26) hx hb dX0_awarded_9 (by decide) (fun c3 => ?_) (fun c3 => ?_)
      · have hV := hV.trans (if_pos c3)
        have hk := hk.1 c3
        refine lv_aload_n hx hb dX0_awarded_26 rfl (lv_at hl 0 rfl) ?_
        refine lv_iload_n hx hb dX0_awarded_27 rfl (lv_at hl 1 rfl) ?_
        refine jci0 (jrunV (As := [.int x1]) (rest := []) hx hb hml hown hts hK hZ hA hP hD hS hl.1 mf_X0_awardedOf kl_X0_103 ⟨rfl, rfl, Nat.le_of_ble_eq_true rfl, Nat.le_of_ble_eq_true rfl⟩ ⟨Nat.zero_le _, Nat.zero_le _⟩ [0, 1, 2, 3, 4] rfl rfl rfl rfl rfl (hX0_awardedOf l D K G a E0 x1 _) rfl rfl (Nat.le_of_ble_eq_true rfl) dX0_awarded_28) hA hP hD hS [0, 1, 2, 3, 4] rfl (fun H locs hP hS => ?_)
        exact hend _ _ _ _ _ hP hD hS hV.symm rfl dX0_awarded_31
      · have hV := hV.trans (if_neg c3)
        have hk := hk.2 c3
        refine lv_iload_n hx hb dX0_awarded_12 rfl (lv_at hl 1 rfl) ?_
        refine lv_aload_n hx hb dX0_awarded_13 rfl (lv_at hl 0 rfl) ?_
        refine lv_iload_n hx hb dX0_awarded_14 rfl (lv_at hl 2 rfl) ?_
        obtain ⟨h4, hk⟩ := hk
        refine jci0 (jrunV (As := [.int x2]) (rest := [.int x1]) hx hb hml hown hts hK hZ hA hP hD hS hl.1 mf_X0_award kl_X0_77 ⟨rfl, rfl, Nat.le_of_ble_eq_true rfl, Nat.le_of_ble_eq_true rfl⟩ ⟨Nat.zero_le _, Nat.zero_le _⟩ [0, 1, 2, 3, 4] rfl rfl rfl rfl rfl (hX0_award l D K G a E0 x2 h4 _) rfl rfl (Nat.le_of_ble_eq_true rfl) dX0_awarded_15) hA hP hD hS [0, 1, 2, 3, 4] rfl (fun H locs hP hS => ?_)
        refine lv_iadd hx hb dX0_awarded_18 ?_
        refine lv_istore_n (lv' := [(1, .int (x1 + (vX0_award E0 x2))), (0, .ref (a 0)), (2, .int x2)]) hx hb dX0_awarded_19 rfl hl (by decide) rfl (fun ls hl => ?_)
        refine lv_iinc (v := (x2 + (1 : Int32))) (lv' := [(2, .int (x2 + (1 : Int32))), (1, .int (x1 + (vX0_award E0 x2))), (0, .ref (a 0))]) hx hb dX0_awarded_20 hl (k := 2) rfl rfl (by decide) rfl (fun ls hl => ?_)
        refine lv_goto (tgt := 4) hx hb dX0_awarded_23 (by decide) ?_
        exact ih (x1 + (vX0_award E0 x2)) (x2 + (1 : Int32)) _ _ _ hV hk hP hD hS (lv_sub hl [2, 1, 0] rfl)
  have hV := vX0_awarded.eq_1 E0
  rw [kX0_awarded] at hk
  refine lv_iconst (v := (0 : Int32)) hx hb dX0_awarded_0 (by decide) ?_
  refine lv_istore_n (lv' := [(1, .int (0 : Int32)), (0, .ref (a 0))]) hx hb dX0_awarded_1 rfl hl (by decide) rfl (fun ls hl => ?_)
  refine lv_iconst (v := (0 : Int32)) hx hb dX0_awarded_2 (by decide) ?_
  refine lv_istore_n (lv' := [(2, .int (0 : Int32)), (1, .int (0 : Int32)), (0, .ref (a 0))]) hx hb dX0_awarded_3 rfl hl (by decide) rfl (fun ls hl => ?_)
  exact hc4 1024 (0 : Int32) (0 : Int32) _ _ _ hV hk hP hD hS (lv_sub hl [2, 1, 0] rfl)
theorem dX0_become_0 : decode cX0_become 0 = .ok (.aload_n 1, 1) := by decide +kernel
theorem dX0_become_1 : decode cX0_become 1 = .ok (.getfield 18, 3) := by decide +kernel
theorem dX0_become_4 : decode cX0_become 4 = .ok (.iconst 0, 1) := by decide +kernel
theorem dX0_become_5 : decode cX0_become 5 = .ok (.aload_n 0, 1) := by decide +kernel
theorem dX0_become_6 : decode cX0_become 6 = .ok (.getfield 18, 3) := by decide +kernel
theorem dX0_become_9 : decode cX0_become 9 = .ok (.iconst 0, 1) := by decide +kernel
theorem dX0_become_10 : decode cX0_become 10 = .ok (.bipush 7, 2) := by decide +kernel
theorem dX0_become_12 : decode cX0_become 12 = .ok (.invokestatic 48, 3) := by decide +kernel
theorem dX0_become_15 : decode cX0_become 15 = .ok (.aload_n 1, 1) := by decide +kernel
theorem dX0_become_16 : decode cX0_become 16 = .ok (.getfield 23, 3) := by decide +kernel
theorem dX0_become_19 : decode cX0_become 19 = .ok (.iconst 0, 1) := by decide +kernel
theorem dX0_become_20 : decode cX0_become 20 = .ok (.aload_n 0, 1) := by decide +kernel
theorem dX0_become_21 : decode cX0_become 21 = .ok (.getfield 23, 3) := by decide +kernel
theorem dX0_become_24 : decode cX0_become 24 = .ok (.iconst 0, 1) := by decide +kernel
theorem dX0_become_25 : decode cX0_become 25 = .ok (.bipush 6, 2) := by decide +kernel
theorem dX0_become_27 : decode cX0_become 27 = .ok (.invokestatic 48, 3) := by decide +kernel
theorem dX0_become_30 : decode cX0_become 30 = .ok (.aload_n 1, 1) := by decide +kernel
theorem dX0_become_31 : decode cX0_become 31 = .ok (.getfield 26, 3) := by decide +kernel
theorem dX0_become_34 : decode cX0_become 34 = .ok (.iconst 0, 1) := by decide +kernel
theorem dX0_become_35 : decode cX0_become 35 = .ok (.aload_n 0, 1) := by decide +kernel
theorem dX0_become_36 : decode cX0_become 36 = .ok (.getfield 26, 3) := by decide +kernel
theorem dX0_become_39 : decode cX0_become 39 = .ok (.iconst 0, 1) := by decide +kernel
theorem dX0_become_40 : decode cX0_become 40 = .ok (.aload_n 1, 1) := by decide +kernel
theorem dX0_become_41 : decode cX0_become 41 = .ok (.getfield 32, 3) := by decide +kernel
theorem dX0_become_44 : decode cX0_become 44 = .ok (.bipush 7, 2) := by decide +kernel
theorem dX0_become_46 : decode cX0_become 46 = .ok (.imul, 1) := by decide +kernel
theorem dX0_become_47 : decode cX0_become 47 = .ok (.invokestatic 48, 3) := by decide +kernel
theorem dX0_become_50 : decode cX0_become 50 = .ok (.aload_n 1, 1) := by decide +kernel
theorem dX0_become_51 : decode cX0_become 51 = .ok (.getfield 29, 3) := by decide +kernel
theorem dX0_become_54 : decode cX0_become 54 = .ok (.iconst 0, 1) := by decide +kernel
theorem dX0_become_55 : decode cX0_become 55 = .ok (.aload_n 0, 1) := by decide +kernel
theorem dX0_become_56 : decode cX0_become 56 = .ok (.getfield 29, 3) := by decide +kernel
theorem dX0_become_59 : decode cX0_become 59 = .ok (.iconst 0, 1) := by decide +kernel
theorem dX0_become_60 : decode cX0_become 60 = .ok (.bipush 10, 2) := by decide +kernel
theorem dX0_become_62 : decode cX0_become 62 = .ok (.invokestatic 48, 3) := by decide +kernel
theorem dX0_become_65 : decode cX0_become 65 = .ok (.aload_n 0, 1) := by decide +kernel
theorem dX0_become_66 : decode cX0_become 66 = .ok (.aload_n 1, 1) := by decide +kernel
theorem dX0_become_67 : decode cX0_become 67 = .ok (.getfield 32, 3) := by decide +kernel
theorem dX0_become_70 : decode cX0_become 70 = .ok (.putfield 32, 3) := by decide +kernel
theorem dX0_become_73 : decode cX0_become 73 = .ok (.aload_n 0, 1) := by decide +kernel
theorem dX0_become_74 : decode cX0_become 74 = .ok (.aload_n 1, 1) := by decide +kernel
theorem dX0_become_75 : decode cX0_become 75 = .ok (.getfield 36, 3) := by decide +kernel
theorem dX0_become_78 : decode cX0_become 78 = .ok (.putfield 36, 3) := by decide +kernel
theorem dX0_become_81 : decode cX0_become 81 = .ok (.aload_n 0, 1) := by decide +kernel
theorem dX0_become_82 : decode cX0_become 82 = .ok (.aload_n 1, 1) := by decide +kernel
theorem dX0_become_83 : decode cX0_become 83 = .ok (.getfield 39, 3) := by decide +kernel
theorem dX0_become_86 : decode cX0_become 86 = .ok (.putfield 39, 3) := by decide +kernel
theorem dX0_become_89 : decode cX0_become 89 = .ok (.return_, 1) := by decide +kernel
def rX0_become : Room := { frames := 1, cells := 0, slots := 0, locals := 18 }
def vX0_become (E0 : ES) (F0 : ES) : ES := (e_s_z (e_s_day (e_s_things (e_s_spots (e_s_traits (e_s_list (e_s_home E0 (va_cpy (e_home F0) (e_home E0) ((0 : Int32)).toNatClampNeg ((0 : Int32)).toNatClampNeg ((7 : Int32)).toNatClampNeg)) (va_cpy (e_list F0) (e_list E0) ((0 : Int32)).toNatClampNeg ((0 : Int32)).toNatClampNeg ((6 : Int32)).toNatClampNeg)) (va_cpy (e_traits F0) (e_traits E0) ((0 : Int32)).toNatClampNeg ((0 : Int32)).toNatClampNeg (((e_things F0) * (7 : Int32))).toNatClampNeg)) (va_cpy (e_spots F0) (e_spots E0) ((0 : Int32)).toNatClampNeg ((0 : Int32)).toNatClampNeg ((10 : Int32)).toNatClampNeg)) (e_things F0)) (e_day F0)) (e_z F0))
def kX0_become (E0 : ES) (F0 : ES) : Prop := (jcpok (0 : Int32) (0 : Int32) (7 : Int32) 7 7) ∧ (jcpok (0 : Int32) (0 : Int32) (6 : Int32) 6 6) ∧ (jcpok (0 : Int32) (0 : Int32) ((e_things F0) * (7 : Int32)) 56 56) ∧ (jcpok (0 : Int32) (0 : Int32) (10 : Int32) 10 10) ∧ True
set_option maxHeartbeats 4000000 in
set_option maxRecDepth 100000 in
theorem hX0_become (l : Launch) (D : va_G) (K : JK) (G : JG) (a : Nat → Nat) (b : Nat → Nat) (E0 : ES) (F0 : ES) (hk : kX0_become E0 F0) (sz : Nat) : Met l yX0_become (.code yX0_become cX0_become 2 none :: jGW) rX0_become (jPre D (jT K) G [.ref (a 0), .ref (b 0)] (wE K a E0 ++ wE K b F0) sz) (jQv D (jT K) (wE K a (vX0_become E0 F0) ++ wE K b F0) (va_A (wE K a E0 ++ wE K b F0) sz)) 0 0 (va_A (wE K a E0 ++ wE K b F0) sz) := by
  refine jEv (by decide) (Nat.le_of_ble_eq_true rfl) (fun p e s m below meth c A Q ls hat hP hD hS hl hend => ?_)
  obtain ⟨hx, hb, hml, hown, hts, hK, hZ, hA⟩ := hat
  have hl : lv_has ls 2 [(0, .ref (a 0)), (1, .ref (b 0))] := hl
  have hV := vX0_become.eq_1 E0 F0
  rw [kX0_become] at hk
  refine lv_aload_n hx hb dX0_become_0 rfl (lv_at hl 1 rfl) ?_
  refine gf_X0_18 (v := .ref (b 1)) hx hb hts hown hK hZ hP (5) rfl rfl dX0_become_1 ?_
  refine lv_iconst (v := (0 : Int32)) hx hb dX0_become_4 (by decide) ?_
  refine lv_aload_n hx hb dX0_become_5 rfl (lv_at hl 0 rfl) ?_
  refine gf_X0_18 (v := .ref (a 1)) hx hb hts hown hK hZ hP (0) rfl rfl dX0_become_6 ?_
  refine lv_iconst (v := (0 : Int32)) hx hb dX0_become_9 (by decide) ?_
  refine lv_bipush (v := (7 : Int32)) hx hb dX0_become_10 (by decide) ?_
  obtain ⟨h5, hk⟩ := hk
  refine va_copyi (sp := (0 : Int32)) (dp := (0 : Int32)) (n := (7 : Int32)) hx hb (hml.trans hl.1.symm) hown (hts _ kac_X0) (hts _ kac_nat) (hts _ kac_stat) (hts _ kac_ini) hK hP hD hS (6) (1) 0 0 rfl rfl rfl rfl rfl h5.1 h5.2.1 h5.2.2.1 h5.2.2.2.1 h5.2.2.2.2 (fun _ _ => rfl) (Nat.le_of_ble_eq_true rfl) (Nat.le_of_ble_eq_true rfl) dX0_become_12 (fun H locs hP hD hS => ?_)
  have hP : va_P D vwCl (wE K a (e_s_home E0 (va_cpy (e_home F0) (e_home E0) ((0 : Int32)).toNatClampNeg ((0 : Int32)).toNatClampNeg ((7 : Int32)).toNatClampNeg)) ++ wE K b F0) H := hP
  have hD : va_D A (wE K a (e_s_home E0 (va_cpy (e_home F0) (e_home E0) ((0 : Int32)).toNatClampNeg ((0 : Int32)).toNatClampNeg ((7 : Int32)).toNatClampNeg)) ++ wE K b F0) := hD
  refine lv_aload_n hx hb dX0_become_15 rfl (lv_at hl 1 rfl) ?_
  refine gf_X0_23 (v := .ref (b 2)) hx hb hts hown hK hZ hP (5) rfl rfl dX0_become_16 ?_
  refine lv_iconst (v := (0 : Int32)) hx hb dX0_become_19 (by decide) ?_
  refine lv_aload_n hx hb dX0_become_20 rfl (lv_at hl 0 rfl) ?_
  refine gf_X0_23 (v := .ref (a 2)) hx hb hts hown hK hZ hP (0) rfl rfl dX0_become_21 ?_
  refine lv_iconst (v := (0 : Int32)) hx hb dX0_become_24 (by decide) ?_
  refine lv_bipush (v := (6 : Int32)) hx hb dX0_become_25 (by decide) ?_
  obtain ⟨h6, hk⟩ := hk
  refine va_copyi (sp := (0 : Int32)) (dp := (0 : Int32)) (n := (6 : Int32)) hx hb (hml.trans hl.1.symm) hown (hts _ kac_X0) (hts _ kac_nat) (hts _ kac_stat) (hts _ kac_ini) hK hP hD hS (7) (2) 0 0 rfl rfl rfl rfl rfl h6.1 h6.2.1 h6.2.2.1 h6.2.2.2.1 h6.2.2.2.2 (fun _ _ => rfl) (Nat.le_of_ble_eq_true rfl) (Nat.le_of_ble_eq_true rfl) dX0_become_27 (fun H locs hP hD hS => ?_)
  have hP : va_P D vwCl (wE K a (e_s_list (e_s_home E0 (va_cpy (e_home F0) (e_home E0) ((0 : Int32)).toNatClampNeg ((0 : Int32)).toNatClampNeg ((7 : Int32)).toNatClampNeg)) (va_cpy (e_list F0) (e_list E0) ((0 : Int32)).toNatClampNeg ((0 : Int32)).toNatClampNeg ((6 : Int32)).toNatClampNeg)) ++ wE K b F0) H := hP
  have hD : va_D A (wE K a (e_s_list (e_s_home E0 (va_cpy (e_home F0) (e_home E0) ((0 : Int32)).toNatClampNeg ((0 : Int32)).toNatClampNeg ((7 : Int32)).toNatClampNeg)) (va_cpy (e_list F0) (e_list E0) ((0 : Int32)).toNatClampNeg ((0 : Int32)).toNatClampNeg ((6 : Int32)).toNatClampNeg)) ++ wE K b F0) := hD
  refine lv_aload_n hx hb dX0_become_30 rfl (lv_at hl 1 rfl) ?_
  refine gf_X0_26 (v := .ref (b 3)) hx hb hts hown hK hZ hP (5) rfl rfl dX0_become_31 ?_
  refine lv_iconst (v := (0 : Int32)) hx hb dX0_become_34 (by decide) ?_
  refine lv_aload_n hx hb dX0_become_35 rfl (lv_at hl 0 rfl) ?_
  refine gf_X0_26 (v := .ref (a 3)) hx hb hts hown hK hZ hP (0) rfl rfl dX0_become_36 ?_
  refine lv_iconst (v := (0 : Int32)) hx hb dX0_become_39 (by decide) ?_
  refine lv_aload_n hx hb dX0_become_40 rfl (lv_at hl 1 rfl) ?_
  refine gf_X0_32 (v := .int (e_things F0)) hx hb hts hown hK hZ hP (5) rfl rfl dX0_become_41 ?_
  refine lv_bipush (v := (7 : Int32)) hx hb dX0_become_44 (by decide) ?_
  refine lv_imul hx hb dX0_become_46 ?_
  obtain ⟨h7, hk⟩ := hk
  refine va_copyi (sp := (0 : Int32)) (dp := (0 : Int32)) (n := ((e_things F0) * (7 : Int32))) hx hb (hml.trans hl.1.symm) hown (hts _ kac_X0) (hts _ kac_nat) (hts _ kac_stat) (hts _ kac_ini) hK hP hD hS (8) (3) 0 0 rfl rfl rfl rfl rfl h7.1 h7.2.1 h7.2.2.1 h7.2.2.2.1 h7.2.2.2.2 (fun _ _ => rfl) (Nat.le_of_ble_eq_true rfl) (Nat.le_of_ble_eq_true rfl) dX0_become_47 (fun H locs hP hD hS => ?_)
  have hP : va_P D vwCl (wE K a (e_s_traits (e_s_list (e_s_home E0 (va_cpy (e_home F0) (e_home E0) ((0 : Int32)).toNatClampNeg ((0 : Int32)).toNatClampNeg ((7 : Int32)).toNatClampNeg)) (va_cpy (e_list F0) (e_list E0) ((0 : Int32)).toNatClampNeg ((0 : Int32)).toNatClampNeg ((6 : Int32)).toNatClampNeg)) (va_cpy (e_traits F0) (e_traits E0) ((0 : Int32)).toNatClampNeg ((0 : Int32)).toNatClampNeg (((e_things F0) * (7 : Int32))).toNatClampNeg)) ++ wE K b F0) H := hP
  have hD : va_D A (wE K a (e_s_traits (e_s_list (e_s_home E0 (va_cpy (e_home F0) (e_home E0) ((0 : Int32)).toNatClampNeg ((0 : Int32)).toNatClampNeg ((7 : Int32)).toNatClampNeg)) (va_cpy (e_list F0) (e_list E0) ((0 : Int32)).toNatClampNeg ((0 : Int32)).toNatClampNeg ((6 : Int32)).toNatClampNeg)) (va_cpy (e_traits F0) (e_traits E0) ((0 : Int32)).toNatClampNeg ((0 : Int32)).toNatClampNeg (((e_things F0) * (7 : Int32))).toNatClampNeg)) ++ wE K b F0) := hD
  refine lv_aload_n hx hb dX0_become_50 rfl (lv_at hl 1 rfl) ?_
  refine gf_X0_29 (v := .ref (b 4)) hx hb hts hown hK hZ hP (5) rfl rfl dX0_become_51 ?_
  refine lv_iconst (v := (0 : Int32)) hx hb dX0_become_54 (by decide) ?_
  refine lv_aload_n hx hb dX0_become_55 rfl (lv_at hl 0 rfl) ?_
  refine gf_X0_29 (v := .ref (a 4)) hx hb hts hown hK hZ hP (0) rfl rfl dX0_become_56 ?_
  refine lv_iconst (v := (0 : Int32)) hx hb dX0_become_59 (by decide) ?_
  refine lv_bipush (v := (10 : Int32)) hx hb dX0_become_60 (by decide) ?_
  obtain ⟨h8, hk⟩ := hk
  refine va_copyi (sp := (0 : Int32)) (dp := (0 : Int32)) (n := (10 : Int32)) hx hb (hml.trans hl.1.symm) hown (hts _ kac_X0) (hts _ kac_nat) (hts _ kac_stat) (hts _ kac_ini) hK hP hD hS (9) (4) 0 0 rfl rfl rfl rfl rfl h8.1 h8.2.1 h8.2.2.1 h8.2.2.2.1 h8.2.2.2.2 (fun _ _ => rfl) (Nat.le_of_ble_eq_true rfl) (Nat.le_of_ble_eq_true rfl) dX0_become_62 (fun H locs hP hD hS => ?_)
  have hP : va_P D vwCl (wE K a (e_s_spots (e_s_traits (e_s_list (e_s_home E0 (va_cpy (e_home F0) (e_home E0) ((0 : Int32)).toNatClampNeg ((0 : Int32)).toNatClampNeg ((7 : Int32)).toNatClampNeg)) (va_cpy (e_list F0) (e_list E0) ((0 : Int32)).toNatClampNeg ((0 : Int32)).toNatClampNeg ((6 : Int32)).toNatClampNeg)) (va_cpy (e_traits F0) (e_traits E0) ((0 : Int32)).toNatClampNeg ((0 : Int32)).toNatClampNeg (((e_things F0) * (7 : Int32))).toNatClampNeg)) (va_cpy (e_spots F0) (e_spots E0) ((0 : Int32)).toNatClampNeg ((0 : Int32)).toNatClampNeg ((10 : Int32)).toNatClampNeg)) ++ wE K b F0) H := hP
  have hD : va_D A (wE K a (e_s_spots (e_s_traits (e_s_list (e_s_home E0 (va_cpy (e_home F0) (e_home E0) ((0 : Int32)).toNatClampNeg ((0 : Int32)).toNatClampNeg ((7 : Int32)).toNatClampNeg)) (va_cpy (e_list F0) (e_list E0) ((0 : Int32)).toNatClampNeg ((0 : Int32)).toNatClampNeg ((6 : Int32)).toNatClampNeg)) (va_cpy (e_traits F0) (e_traits E0) ((0 : Int32)).toNatClampNeg ((0 : Int32)).toNatClampNeg (((e_things F0) * (7 : Int32))).toNatClampNeg)) (va_cpy (e_spots F0) (e_spots E0) ((0 : Int32)).toNatClampNeg ((0 : Int32)).toNatClampNeg ((10 : Int32)).toNatClampNeg)) ++ wE K b F0) := hD
  refine lv_aload_n hx hb dX0_become_65 rfl (lv_at hl 0 rfl) ?_
  refine lv_aload_n hx hb dX0_become_66 rfl (lv_at hl 1 rfl) ?_
  refine gf_X0_32 (v := .int (e_things F0)) hx hb hts hown hK hZ hP (5) rfl rfl dX0_become_67 ?_
  refine pf_X0_32 hx hb hts hown hK hZ hP hD hS (0) rfl rfl rfl (Nat.le_of_ble_eq_true rfl) dX0_become_70 (fun H locs hP hD hS => ?_)
  have hP : va_P D vwCl (wE K a (e_s_things (e_s_spots (e_s_traits (e_s_list (e_s_home E0 (va_cpy (e_home F0) (e_home E0) ((0 : Int32)).toNatClampNeg ((0 : Int32)).toNatClampNeg ((7 : Int32)).toNatClampNeg)) (va_cpy (e_list F0) (e_list E0) ((0 : Int32)).toNatClampNeg ((0 : Int32)).toNatClampNeg ((6 : Int32)).toNatClampNeg)) (va_cpy (e_traits F0) (e_traits E0) ((0 : Int32)).toNatClampNeg ((0 : Int32)).toNatClampNeg (((e_things F0) * (7 : Int32))).toNatClampNeg)) (va_cpy (e_spots F0) (e_spots E0) ((0 : Int32)).toNatClampNeg ((0 : Int32)).toNatClampNeg ((10 : Int32)).toNatClampNeg)) (e_things F0)) ++ wE K b F0) H := hP
  have hD : va_D A (wE K a (e_s_things (e_s_spots (e_s_traits (e_s_list (e_s_home E0 (va_cpy (e_home F0) (e_home E0) ((0 : Int32)).toNatClampNeg ((0 : Int32)).toNatClampNeg ((7 : Int32)).toNatClampNeg)) (va_cpy (e_list F0) (e_list E0) ((0 : Int32)).toNatClampNeg ((0 : Int32)).toNatClampNeg ((6 : Int32)).toNatClampNeg)) (va_cpy (e_traits F0) (e_traits E0) ((0 : Int32)).toNatClampNeg ((0 : Int32)).toNatClampNeg (((e_things F0) * (7 : Int32))).toNatClampNeg)) (va_cpy (e_spots F0) (e_spots E0) ((0 : Int32)).toNatClampNeg ((0 : Int32)).toNatClampNeg ((10 : Int32)).toNatClampNeg)) (e_things F0)) ++ wE K b F0) := hD
  refine lv_aload_n hx hb dX0_become_73 rfl (lv_at hl 0 rfl) ?_
  refine lv_aload_n hx hb dX0_become_74 rfl (lv_at hl 1 rfl) ?_
  refine gf_X0_36 (v := .int (e_day F0)) hx hb hts hown hK hZ hP (5) rfl rfl dX0_become_75 ?_
  refine pf_X0_36 hx hb hts hown hK hZ hP hD hS (0) rfl rfl rfl (Nat.le_of_ble_eq_true rfl) dX0_become_78 (fun H locs hP hD hS => ?_)
  have hP : va_P D vwCl (wE K a (e_s_day (e_s_things (e_s_spots (e_s_traits (e_s_list (e_s_home E0 (va_cpy (e_home F0) (e_home E0) ((0 : Int32)).toNatClampNeg ((0 : Int32)).toNatClampNeg ((7 : Int32)).toNatClampNeg)) (va_cpy (e_list F0) (e_list E0) ((0 : Int32)).toNatClampNeg ((0 : Int32)).toNatClampNeg ((6 : Int32)).toNatClampNeg)) (va_cpy (e_traits F0) (e_traits E0) ((0 : Int32)).toNatClampNeg ((0 : Int32)).toNatClampNeg (((e_things F0) * (7 : Int32))).toNatClampNeg)) (va_cpy (e_spots F0) (e_spots E0) ((0 : Int32)).toNatClampNeg ((0 : Int32)).toNatClampNeg ((10 : Int32)).toNatClampNeg)) (e_things F0)) (e_day F0)) ++ wE K b F0) H := hP
  have hD : va_D A (wE K a (e_s_day (e_s_things (e_s_spots (e_s_traits (e_s_list (e_s_home E0 (va_cpy (e_home F0) (e_home E0) ((0 : Int32)).toNatClampNeg ((0 : Int32)).toNatClampNeg ((7 : Int32)).toNatClampNeg)) (va_cpy (e_list F0) (e_list E0) ((0 : Int32)).toNatClampNeg ((0 : Int32)).toNatClampNeg ((6 : Int32)).toNatClampNeg)) (va_cpy (e_traits F0) (e_traits E0) ((0 : Int32)).toNatClampNeg ((0 : Int32)).toNatClampNeg (((e_things F0) * (7 : Int32))).toNatClampNeg)) (va_cpy (e_spots F0) (e_spots E0) ((0 : Int32)).toNatClampNeg ((0 : Int32)).toNatClampNeg ((10 : Int32)).toNatClampNeg)) (e_things F0)) (e_day F0)) ++ wE K b F0) := hD
  refine lv_aload_n hx hb dX0_become_81 rfl (lv_at hl 0 rfl) ?_
  refine lv_aload_n hx hb dX0_become_82 rfl (lv_at hl 1 rfl) ?_
  refine gf_X0_39 (v := .int (e_z F0)) hx hb hts hown hK hZ hP (5) rfl rfl dX0_become_83 ?_
  refine pf_X0_39 hx hb hts hown hK hZ hP hD hS (0) rfl rfl rfl (Nat.le_of_ble_eq_true rfl) dX0_become_86 (fun H locs hP hD hS => ?_)
  have hP : va_P D vwCl (wE K a (e_s_z (e_s_day (e_s_things (e_s_spots (e_s_traits (e_s_list (e_s_home E0 (va_cpy (e_home F0) (e_home E0) ((0 : Int32)).toNatClampNeg ((0 : Int32)).toNatClampNeg ((7 : Int32)).toNatClampNeg)) (va_cpy (e_list F0) (e_list E0) ((0 : Int32)).toNatClampNeg ((0 : Int32)).toNatClampNeg ((6 : Int32)).toNatClampNeg)) (va_cpy (e_traits F0) (e_traits E0) ((0 : Int32)).toNatClampNeg ((0 : Int32)).toNatClampNeg (((e_things F0) * (7 : Int32))).toNatClampNeg)) (va_cpy (e_spots F0) (e_spots E0) ((0 : Int32)).toNatClampNeg ((0 : Int32)).toNatClampNeg ((10 : Int32)).toNatClampNeg)) (e_things F0)) (e_day F0)) (e_z F0)) ++ wE K b F0) H := hP
  have hD : va_D A (wE K a (e_s_z (e_s_day (e_s_things (e_s_spots (e_s_traits (e_s_list (e_s_home E0 (va_cpy (e_home F0) (e_home E0) ((0 : Int32)).toNatClampNeg ((0 : Int32)).toNatClampNeg ((7 : Int32)).toNatClampNeg)) (va_cpy (e_list F0) (e_list E0) ((0 : Int32)).toNatClampNeg ((0 : Int32)).toNatClampNeg ((6 : Int32)).toNatClampNeg)) (va_cpy (e_traits F0) (e_traits E0) ((0 : Int32)).toNatClampNeg ((0 : Int32)).toNatClampNeg (((e_things F0) * (7 : Int32))).toNatClampNeg)) (va_cpy (e_spots F0) (e_spots E0) ((0 : Int32)).toNatClampNeg ((0 : Int32)).toNatClampNeg ((10 : Int32)).toNatClampNeg)) (e_things F0)) (e_day F0)) (e_z F0)) ++ wE K b F0) := hD
  exact hend _ _ _ _ (by rw [hV]; exact hP) (by rw [hV]; exact hD) hS dX0_become_89
theorem dX0_draw_0 : decode cX0_draw 0 = .ok (.aload_n 0, 1) := by decide +kernel
theorem dX0_draw_1 : decode cX0_draw 1 = .ok (.aload_n 0, 1) := by decide +kernel
theorem dX0_draw_2 : decode cX0_draw 2 = .ok (.getfield 39, 3) := by decide +kernel
theorem dX0_draw_5 : decode cX0_draw 5 = .ok (.ldc 113, 2) := by decide +kernel
theorem dX0_draw_7 : decode cX0_draw 7 = .ok (.imul, 1) := by decide +kernel
theorem dX0_draw_8 : decode cX0_draw 8 = .ok (.sipush 12345, 3) := by decide +kernel
theorem dX0_draw_11 : decode cX0_draw 11 = .ok (.iadd, 1) := by decide +kernel
theorem dX0_draw_12 : decode cX0_draw 12 = .ok (.putfield 39, 3) := by decide +kernel
theorem dX0_draw_15 : decode cX0_draw 15 = .ok (.aload_n 0, 1) := by decide +kernel
theorem dX0_draw_16 : decode cX0_draw 16 = .ok (.getfield 39, 3) := by decide +kernel
theorem dX0_draw_19 : decode cX0_draw 19 = .ok (.bipush 8, 2) := by decide +kernel
theorem dX0_draw_21 : decode cX0_draw 21 = .ok (.iushr, 1) := by decide +kernel
theorem dX0_draw_22 : decode cX0_draw 22 = .ok (.ireturn, 1) := by decide +kernel
def rX0_draw : Room := { frames := 0, cells := 0, slots := 0, locals := 0 }
def vX0_draw (E0 : ES) : Int32 × ES := ((jushr (((e_z E0) * (1103515245 : Int32)) + (12345 : Int32)) (8 : Int32)), (e_s_z E0 (((e_z E0) * (1103515245 : Int32)) + (12345 : Int32))))
set_option maxHeartbeats 4000000 in
set_option maxRecDepth 100000 in
theorem hX0_draw (l : Launch) (D : va_G) (K : JK) (G : JG) (a : Nat → Nat) (E0 : ES) (sz : Nat) : Met l yX0_draw (.code yX0_draw cX0_draw 1 (some .int) :: jGW) rX0_draw (jPre D (jT K) G [.ref (a 0)] (wE K a E0) sz) (jQi D (jT K) ((vX0_draw E0).1) (wE K a ((vX0_draw E0).2)) (va_A (wE K a E0) sz)) 0 0 (va_A (wE K a E0) sz) := by
  refine jEi (by decide) (Nat.le_of_ble_eq_true rfl) (fun p e s m below meth c A Q ls hat hP hD hS hl hend => ?_)
  obtain ⟨hx, hb, hml, hown, hts, hK, hZ, hA⟩ := hat
  have hl : lv_has ls 1 [(0, .ref (a 0))] := hl
  have hV := vX0_draw.eq_1 E0
  refine lv_aload_n hx hb dX0_draw_0 rfl (lv_at hl 0 rfl) ?_
  refine lv_aload_n hx hb dX0_draw_1 rfl (lv_at hl 0 rfl) ?_
  refine gf_X0_39 (v := .int (e_z E0)) hx hb hts hown hK hZ hP (0) rfl rfl dX0_draw_2 ?_
  refine lv_ldc (v := (1103515245 : Int32)) hx hb hown (hts _ kc_X0_113) dX0_draw_5 ?_
  refine lv_imul hx hb dX0_draw_7 ?_
  refine lv_sipush (v := (12345 : Int32)) hx hb dX0_draw_8 (by decide) ?_
  refine lv_iadd hx hb dX0_draw_11 ?_
  refine pf_X0_39 hx hb hts hown hK hZ hP hD hS (0) rfl rfl rfl (Nat.le_of_ble_eq_true rfl) dX0_draw_12 (fun H locs hP hD hS => ?_)
  have hP : va_P D vwCl (wE K a (e_s_z E0 (((e_z E0) * (1103515245 : Int32)) + (12345 : Int32)))) H := hP
  have hD : va_D A (wE K a (e_s_z E0 (((e_z E0) * (1103515245 : Int32)) + (12345 : Int32)))) := hD
  refine lv_aload_n hx hb dX0_draw_15 rfl (lv_at hl 0 rfl) ?_
  refine gf_X0_39 (v := .int (((e_z E0) * (1103515245 : Int32)) + (12345 : Int32))) hx hb hts hown hK hZ hP (0) rfl rfl dX0_draw_16 ?_
  refine lv_bipush (v := (8 : Int32)) hx hb dX0_draw_19 (by decide) ?_
  refine j_iushr hx hb dX0_draw_21 ?_
  exact hend _ _ _ _ _ (by rw [hV]; exact hP) (by rw [hV]; exact hD) hS (by rw [hV]) rfl dX0_draw_22
theorem dX0_heldSpots_0 : decode cX0_heldSpots 0 = .ok (.iconst 0, 1) := by decide +kernel
theorem dX0_heldSpots_1 : decode cX0_heldSpots 1 = .ok (.istore_n 1, 1) := by decide +kernel
theorem dX0_heldSpots_2 : decode cX0_heldSpots 2 = .ok (.iconst 0, 1) := by decide +kernel
theorem dX0_heldSpots_3 : decode cX0_heldSpots 3 = .ok (.istore_n 2, 1) := by decide +kernel
theorem dX0_heldSpots_4 : decode cX0_heldSpots 4 = .ok (.iload_n 2, 1) := by decide +kernel
theorem dX0_heldSpots_5 : decode cX0_heldSpots 5 = .ok (.bipush 10, 2) := by decide +kernel
theorem dX0_heldSpots_7 : decode cX0_heldSpots 7 = .ok (.if_icmp .ge 22, 3) := by decide +kernel
theorem dX0_heldSpots_10 : decode cX0_heldSpots 10 = .ok (.aload_n 0, 1) := by decide +kernel
theorem dX0_heldSpots_11 : decode cX0_heldSpots 11 = .ok (.getfield 29, 3) := by decide +kernel
theorem dX0_heldSpots_14 : decode cX0_heldSpots 14 = .ok (.iload_n 2, 1) := by decide +kernel
theorem dX0_heldSpots_15 : decode cX0_heldSpots 15 = .ok (.iaload, 1) := by decide +kernel
theorem dX0_heldSpots_16 : decode cX0_heldSpots 16 = .ok (.iconst (-1), 1) := by decide +kernel
theorem dX0_heldSpots_17 : decode cX0_heldSpots 17 = .ok (.if_icmp .eq 6, 3) := by decide +kernel
theorem dX0_heldSpots_20 : decode cX0_heldSpots 20 = .ok (.iinc 1 1, 3) := by decide +kernel
theorem dX0_heldSpots_23 : decode cX0_heldSpots 23 = .ok (.iinc 2 1, 3) := by decide +kernel
theorem dX0_heldSpots_26 : decode cX0_heldSpots 26 = .ok (.goto (-22), 3) := by decide +kernel
theorem dX0_heldSpots_29 : decode cX0_heldSpots 29 = .ok (.iload_n 1, 1) := by decide +kernel
theorem dX0_heldSpots_30 : decode cX0_heldSpots 30 = .ok (.ireturn, 1) := by decide +kernel
def rX0_heldSpots : Room := { frames := 0, cells := 0, slots := 0, locals := 0 }
def vX0_heldSpots_c23 (E0 : ES) (k : Int32 → Int32 → Int32) (x1 : Int32) (x2 : Int32) : Int32 := (k x1 (x2 + (1 : Int32)))
def kX0_heldSpots_c23 (E0 : ES) (q : Int32 → Int32 → Prop) (x1 : Int32) (x2 : Int32) : Prop := (q x1 (x2 + (1 : Int32)))
def vX0_heldSpots_c4 (E0 : ES) : Nat → Int32 → Int32 → Int32
  | 0, x1, x2 => (0)
  | n + 1, x1, x2 => if ((10 : Int32) ≤ x2) then x1 else if (((e_spots E0) (x2).toNatClampNeg) = (-1 : Int32)) then (vX0_heldSpots_c23 E0 (fun x1 x2 => vX0_heldSpots_c4 E0 n x1 x2) x1 x2) else (vX0_heldSpots_c23 E0 (fun x1 x2 => vX0_heldSpots_c4 E0 n x1 x2) (x1 + (1 : Int32)) x2)
def kX0_heldSpots_c4 (E0 : ES) : Nat → Int32 → Int32 → Prop
  | 0, _, _ => False
  | n + 1, x1, x2 => (((10 : Int32) ≤ x2) → True) ∧ (¬ ((10 : Int32) ≤ x2) → ((vp_in x2 10) ∧ ((((e_spots E0) (x2).toNatClampNeg) = (-1 : Int32)) → ((kX0_heldSpots_c23 E0 (fun x1 x2 => kX0_heldSpots_c4 E0 n x1 x2) x1 x2))) ∧ (¬ (((e_spots E0) (x2).toNatClampNeg) = (-1 : Int32)) → ((kX0_heldSpots_c23 E0 (fun x1 x2 => kX0_heldSpots_c4 E0 n x1 x2) (x1 + (1 : Int32)) x2)))))
def vX0_heldSpots (E0 : ES) : Int32 := (vX0_heldSpots_c4 E0 1024 (0 : Int32) (0 : Int32))
def kX0_heldSpots (E0 : ES) : Prop := (kX0_heldSpots_c4 E0 1024 (0 : Int32) (0 : Int32))
set_option maxHeartbeats 4000000 in
set_option maxRecDepth 100000 in
theorem hX0_heldSpots (l : Launch) (D : va_G) (K : JK) (G : JG) (a : Nat → Nat) (E0 : ES) (hk : kX0_heldSpots E0) (sz : Nat) : Met l yX0_heldSpots (.code yX0_heldSpots cX0_heldSpots 3 (some .int) :: jGW) rX0_heldSpots (jPre D (jT K) G [.ref (a 0)] (wE K a E0) sz) (jQi D (jT K) (vX0_heldSpots E0) (wE K a E0) (va_A (wE K a E0) sz)) 0 0 (va_A (wE K a E0) sz) := by
  refine jEi (by decide) (Nat.le_of_ble_eq_true rfl) (fun p e s m below meth c A Q ls hat hP hD hS hl hend => ?_)
  obtain ⟨hx, hb, hml, hown, hts, hK, hZ, hA⟩ := hat
  have hl : lv_has ls 3 [(0, .ref (a 0))] := hl
  have hc4 : ∀ (n : Nat) (x1 : Int32) (x2 : Int32) (H : Heap) (locs : List Loc) (ls : Array Slot), (vX0_heldSpots E0) = vX0_heldSpots_c4 E0 n x1 x2 → kX0_heldSpots_c4 E0 n x1 x2 → va_P D vwCl (wE K a E0) H → va_D A (wE K a E0) → va_S A s.heap H locs → lv_has ls 3 [(0, .ref (a 0)), (1, .int x1), (2, .int x2)] → W p l e rX0_heldSpots s m ([.ref (a 0)] : List Value).toArray below meth c H locs 0 0 Q (F0 m 4 ls []) := by
    intro n
    induction n with
    | zero =>
      intro x1 x2 H locs ls hV hk hP hD hS hl
      exact False.elim hk
    | succ n ih =>
      have hc23 : ∀ (x1 : Int32) (x2 : Int32) (H : Heap) (locs : List Loc) (ls : Array Slot), (vX0_heldSpots E0) = vX0_heldSpots_c23 E0 (fun x1 x2 => vX0_heldSpots_c4 E0 n x1 x2) x1 x2 → kX0_heldSpots_c23 E0 (fun x1 x2 => kX0_heldSpots_c4 E0 n x1 x2) x1 x2 → va_P D vwCl (wE K a E0) H → va_D A (wE K a E0) → va_S A s.heap H locs → lv_has ls 3 [(0, .ref (a 0)), (1, .int x1), (2, .int x2)] → W p l e rX0_heldSpots s m ([.ref (a 0)] : List Value).toArray below meth c H locs 0 0 Q (F0 m 23 ls []) := by
        intro x1 x2 H locs ls hV hk hP hD hS hl
        rw [vX0_heldSpots_c23] at hV
        rw [kX0_heldSpots_c23] at hk
        refine lv_iinc (v := (x2 + (1 : Int32))) (lv' := [(2, .int (x2 + (1 : Int32))), (0, .ref (a 0)), (1, .int x1)]) hx hb dX0_heldSpots_23 hl (k := 2) rfl rfl (by decide) rfl (fun ls hl => ?_)
        refine lv_goto (tgt := 4) hx hb dX0_heldSpots_26 (by decide) ?_
        exact ih x1 (x2 + (1 : Int32)) _ _ _ hV hk hP hD hS (lv_sub hl [1, 2, 0] rfl)
      intro x1 x2 H locs ls hV hk hP hD hS hl
      rw [vX0_heldSpots_c4] at hV
      rw [kX0_heldSpots_c4] at hk
      refine lv_iload_n hx hb dX0_heldSpots_4 rfl (lv_at hl 2 rfl) ?_
      refine lv_bipush (v := (10 : Int32)) hx hb dX0_heldSpots_5 (by decide) ?_
      refine lv_icmp_ge (tgt := 29) hx hb dX0_heldSpots_7 (by decide) (fun c4 => ?_) (fun c4 => ?_)
      · have hV := hV.trans (if_pos c4)
        have hk := hk.1 c4
        refine lv_iload_n hx hb dX0_heldSpots_29 rfl (lv_at hl 1 rfl) ?_
        exact hend _ _ _ _ _ hP hD hS hV.symm rfl dX0_heldSpots_30
      · have hV := hV.trans (if_neg c4)
        have hk := hk.2 c4
        refine lv_aload_n hx hb dX0_heldSpots_10 rfl (lv_at hl 0 rfl) ?_
        refine gf_X0_29 (v := .ref (a 4)) hx hb hts hown hK hZ hP (0) rfl rfl dX0_heldSpots_11 ?_
        refine lv_iload_n hx hb dX0_heldSpots_14 rfl (lv_at hl 2 rfl) ?_
        obtain ⟨h5, hk⟩ := hk
        refine va_iald hx hb hK hP (4) 0 rfl rfl h5 dX0_heldSpots_15 ?_
        refine lv_iconst (v := (-1 : Int32)) hx hb dX0_heldSpots_16 (by decide) ?_
        refine lv_icmp_eq (tgt := 23) hx hb dX0_heldSpots_17 (by decide) (fun c6 => ?_) (fun c6 => ?_)
        · have hV := hV.trans (if_pos c6)
          have hk := hk.1 c6
          exact hc23 x1 x2 _ _ _ hV hk hP hD hS (lv_sub hl [0, 1, 2] rfl)
        · have hV := hV.trans (if_neg c6)
          have hk := hk.2 c6
          refine lv_iinc (v := (x1 + (1 : Int32))) (lv' := [(1, .int (x1 + (1 : Int32))), (0, .ref (a 0)), (2, .int x2)]) hx hb dX0_heldSpots_20 hl (k := 1) rfl rfl (by decide) rfl (fun ls hl => ?_)
          exact hc23 (x1 + (1 : Int32)) x2 _ _ _ hV hk hP hD hS (lv_sub hl [1, 0, 2] rfl)
  have hV := vX0_heldSpots.eq_1 E0
  rw [kX0_heldSpots] at hk
  refine lv_iconst (v := (0 : Int32)) hx hb dX0_heldSpots_0 (by decide) ?_
  refine lv_istore_n (lv' := [(1, .int (0 : Int32)), (0, .ref (a 0))]) hx hb dX0_heldSpots_1 rfl hl (by decide) rfl (fun ls hl => ?_)
  refine lv_iconst (v := (0 : Int32)) hx hb dX0_heldSpots_2 (by decide) ?_
  refine lv_istore_n (lv' := [(2, .int (0 : Int32)), (1, .int (0 : Int32)), (0, .ref (a 0))]) hx hb dX0_heldSpots_3 rfl hl (by decide) rfl (fun ls hl => ?_)
  exact hc4 1024 (0 : Int32) (0 : Int32) _ _ _ hV hk hP hD hS (lv_sub hl [2, 1, 0] rfl)
theorem dX0_hurt_0 : decode cX0_hurt 0 = .ok (.aload_n 0, 1) := by decide +kernel
theorem dX0_hurt_1 : decode cX0_hurt 1 = .ok (.iload_n 1, 1) := by decide +kernel
theorem dX0_hurt_2 : decode cX0_hurt 2 = .ok (.iconst 0, 1) := by decide +kernel
theorem dX0_hurt_3 : decode cX0_hurt 3 = .ok (.invokevirtual 58, 3) := by decide +kernel
theorem dX0_hurt_6 : decode cX0_hurt 6 = .ok (.iload_n 2, 1) := by decide +kernel
theorem dX0_hurt_7 : decode cX0_hurt 7 = .ok (.aload_n 0, 1) := by decide +kernel
theorem dX0_hurt_8 : decode cX0_hurt 8 = .ok (.getfield 18, 3) := by decide +kernel
theorem dX0_hurt_11 : decode cX0_hurt 11 = .ok (.iconst 1, 1) := by decide +kernel
theorem dX0_hurt_12 : decode cX0_hurt 12 = .ok (.iaload, 1) := by decide +kernel
theorem dX0_hurt_13 : decode cX0_hurt 13 = .ok (.invokestatic 89, 3) := by decide +kernel
theorem dX0_hurt_16 : decode cX0_hurt 16 = .ok (.ireturn, 1) := by decide +kernel
def rX0_hurt : Room := { frames := 1, cells := 0, slots := 0, locals := 22 }
def vX0_hurt (E0 : ES) (p1 : Int32) (p2 : Int32) : Int32 := (vX1_hurt (vX0_trait E0 p1 (0 : Int32)) p2 ((e_home E0) ((1 : Int32)).toNatClampNeg))
def kX0_hurt (E0 : ES) (p1 : Int32) (p2 : Int32) : Prop := (kX0_trait E0 p1 (0 : Int32)) ∧ True
set_option maxHeartbeats 4000000 in
set_option maxRecDepth 100000 in
theorem hX0_hurt (l : Launch) (D : va_G) (K : JK) (G : JG) (a : Nat → Nat) (E0 : ES) (p1 : Int32) (p2 : Int32) (hk : kX0_hurt E0 p1 p2) (sz : Nat) : Met l yX0_hurt (.code yX0_hurt cX0_hurt 3 (some .int) :: jGW) rX0_hurt (jPre D (jT K) G [.ref (a 0), .int p1, .int p2] (wE K a E0) sz) (jQi D (jT K) (vX0_hurt E0 p1 p2) (wE K a E0) (va_A (wE K a E0) sz)) 0 0 (va_A (wE K a E0) sz) := by
  refine jEi (by decide) (Nat.le_of_ble_eq_true rfl) (fun p e s m below meth c A Q ls hat hP hD hS hl hend => ?_)
  obtain ⟨hx, hb, hml, hown, hts, hK, hZ, hA⟩ := hat
  have hl : lv_has ls 3 [(0, .ref (a 0)), (1, .int p1), (2, .int p2)] := hl
  have hV := vX0_hurt.eq_1 E0 p1 p2
  rw [kX0_hurt] at hk
  refine lv_aload_n hx hb dX0_hurt_0 rfl (lv_at hl 0 rfl) ?_
  refine lv_iload_n hx hb dX0_hurt_1 rfl (lv_at hl 1 rfl) ?_
  refine lv_iconst (v := (0 : Int32)) hx hb dX0_hurt_2 (by decide) ?_
  obtain ⟨h2, hk⟩ := hk
  refine jci0 (jrunV (As := [.int p1, .int (0 : Int32)]) (rest := []) hx hb hml hown hts hK hZ hA hP hD hS hl.1 mf_X0_trait kl_X0_58 ⟨rfl, rfl, Nat.le_of_ble_eq_true rfl, Nat.le_of_ble_eq_true rfl⟩ ⟨Nat.zero_le _, Nat.zero_le _⟩ [0, 1, 2, 3, 4] rfl rfl rfl rfl rfl (hX0_trait l D K G a E0 p1 (0 : Int32) h2 _) rfl rfl (Nat.le_of_ble_eq_true rfl) dX0_hurt_3) hA hP hD hS [0, 1, 2, 3, 4] rfl (fun H locs hP hS => ?_)
  refine lv_iload_n hx hb dX0_hurt_6 rfl (lv_at hl 2 rfl) ?_
  refine lv_aload_n hx hb dX0_hurt_7 rfl (lv_at hl 0 rfl) ?_
  refine gf_X0_18 (v := .ref (a 1)) hx hb hts hown hK hZ hP (0) rfl rfl dX0_hurt_8 ?_
  refine lv_iconst (v := (1 : Int32)) hx hb dX0_hurt_11 (by decide) ?_
  refine va_iald hx hb hK hP (1) 0 rfl rfl (by unfold vp_in; decide) dX0_hurt_12 ?_
  refine jci0 (jrunS (As := [.int (vX0_trait E0 p1 (0 : Int32)), .int p2, .int ((e_home E0) ((1 : Int32)).toNatClampNeg)]) (rest := []) hx hb hml hown hts hK hZ hA hP hD hS hl.1 mf_X1_hurt kl_X0_89 ⟨rfl, rfl, Nat.le_of_ble_eq_true rfl, Nat.le_of_ble_eq_true rfl⟩ ⟨Nat.zero_le _, Nat.zero_le _⟩ [] rfl rfl (hX1_hurt l D K G (vX0_trait E0 p1 (0 : Int32)) p2 ((e_home E0) ((1 : Int32)).toNatClampNeg) _) rfl rfl (Nat.le_of_ble_eq_true rfl) dX0_hurt_13) hA hP hD hS [] rfl (fun H locs hP hS => ?_)
  exact hend _ _ _ _ _ hP hD hS hV.symm rfl dX0_hurt_16
theorem dX0_lower_0 : decode cX0_lower 0 = .ok (.aload_n 0, 1) := by decide +kernel
theorem dX0_lower_1 : decode cX0_lower 1 = .ok (.iload_n 1, 1) := by decide +kernel
theorem dX0_lower_2 : decode cX0_lower 2 = .ok (.iconst 4, 1) := by decide +kernel
theorem dX0_lower_3 : decode cX0_lower 3 = .ok (.iconst 0, 1) := by decide +kernel
theorem dX0_lower_4 : decode cX0_lower 4 = .ok (.aload_n 0, 1) := by decide +kernel
theorem dX0_lower_5 : decode cX0_lower 5 = .ok (.iload_n 1, 1) := by decide +kernel
theorem dX0_lower_6 : decode cX0_lower 6 = .ok (.iconst 4, 1) := by decide +kernel
theorem dX0_lower_7 : decode cX0_lower 7 = .ok (.invokevirtual 58, 3) := by decide +kernel
theorem dX0_lower_10 : decode cX0_lower 10 = .ok (.iload_n 2, 1) := by decide +kernel
theorem dX0_lower_11 : decode cX0_lower 11 = .ok (.isub, 1) := by decide +kernel
theorem dX0_lower_12 : decode cX0_lower 12 = .ok (.invokestatic 92, 3) := by decide +kernel
theorem dX0_lower_15 : decode cX0_lower 15 = .ok (.invokevirtual 54, 3) := by decide +kernel
theorem dX0_lower_18 : decode cX0_lower 18 = .ok (.return_, 1) := by decide +kernel
def rX0_lower : Room := { frames := 1, cells := 0, slots := 0, locals := 23 }
def vX0_lower (E0 : ES) (p1 : Int32) (p2 : Int32) : ES := (vX0_put E0 p1 (4 : Int32) (jmax (0 : Int32) ((vX0_trait E0 p1 (4 : Int32)) - p2)))
def kX0_lower (E0 : ES) (p1 : Int32) (p2 : Int32) : Prop := (kX0_trait E0 p1 (4 : Int32)) ∧ (kX0_put E0 p1 (4 : Int32) (jmax (0 : Int32) ((vX0_trait E0 p1 (4 : Int32)) - p2))) ∧ True
set_option maxHeartbeats 4000000 in
set_option maxRecDepth 100000 in
theorem hX0_lower (l : Launch) (D : va_G) (K : JK) (G : JG) (a : Nat → Nat) (E0 : ES) (p1 : Int32) (p2 : Int32) (hk : kX0_lower E0 p1 p2) (sz : Nat) : Met l yX0_lower (.code yX0_lower cX0_lower 3 none :: jGW) rX0_lower (jPre D (jT K) G [.ref (a 0), .int p1, .int p2] (wE K a E0) sz) (jQv D (jT K) (wE K a (vX0_lower E0 p1 p2)) (va_A (wE K a E0) sz)) 0 0 (va_A (wE K a E0) sz) := by
  refine jEv (by decide) (Nat.le_of_ble_eq_true rfl) (fun p e s m below meth c A Q ls hat hP hD hS hl hend => ?_)
  obtain ⟨hx, hb, hml, hown, hts, hK, hZ, hA⟩ := hat
  have hl : lv_has ls 3 [(0, .ref (a 0)), (1, .int p1), (2, .int p2)] := hl
  have hV := vX0_lower.eq_1 E0 p1 p2
  rw [kX0_lower] at hk
  refine lv_aload_n hx hb dX0_lower_0 rfl (lv_at hl 0 rfl) ?_
  refine lv_iload_n hx hb dX0_lower_1 rfl (lv_at hl 1 rfl) ?_
  refine lv_iconst (v := (4 : Int32)) hx hb dX0_lower_2 (by decide) ?_
  refine lv_iconst (v := (0 : Int32)) hx hb dX0_lower_3 (by decide) ?_
  refine lv_aload_n hx hb dX0_lower_4 rfl (lv_at hl 0 rfl) ?_
  refine lv_iload_n hx hb dX0_lower_5 rfl (lv_at hl 1 rfl) ?_
  refine lv_iconst (v := (4 : Int32)) hx hb dX0_lower_6 (by decide) ?_
  obtain ⟨h3, hk⟩ := hk
  refine jci0 (jrunV (As := [.int p1, .int (4 : Int32)]) (rest := [.int (0 : Int32), .int (4 : Int32), .int p1, .ref (a 0)]) hx hb hml hown hts hK hZ hA hP hD hS hl.1 mf_X0_trait kl_X0_58 ⟨rfl, rfl, Nat.le_of_ble_eq_true rfl, Nat.le_of_ble_eq_true rfl⟩ ⟨Nat.zero_le _, Nat.zero_le _⟩ [0, 1, 2, 3, 4] rfl rfl rfl rfl rfl (hX0_trait l D K G a E0 p1 (4 : Int32) h3 _) rfl rfl (Nat.le_of_ble_eq_true rfl) dX0_lower_7) hA hP hD hS [0, 1, 2, 3, 4] rfl (fun H locs hP hS => ?_)
  refine lv_iload_n hx hb dX0_lower_10 rfl (lv_at hl 2 rfl) ?_
  refine lv_isub hx hb dX0_lower_11 ?_
  refine mmax_X0_92 hx hb (hml.trans hl.1.symm) hts hown (Nat.le_of_ble_eq_true rfl) (Nat.le_of_ble_eq_true rfl) (Nat.zero_le _) (Nat.zero_le _) dX0_lower_12 ?_
  obtain ⟨h4, hk⟩ := hk
  refine jcv (jrunV (As := [.int p1, .int (4 : Int32), .int (jmax (0 : Int32) ((vX0_trait E0 p1 (4 : Int32)) - p2))]) (rest := []) hx hb hml hown hts hK hZ hA hP hD hS hl.1 mf_X0_put kl_X0_54 ⟨rfl, rfl, Nat.le_of_ble_eq_true rfl, Nat.le_of_ble_eq_true rfl⟩ ⟨Nat.zero_le _, Nat.zero_le _⟩ [0, 1, 2, 3, 4] rfl rfl rfl rfl rfl (hX0_put l D K G a E0 p1 (4 : Int32) (jmax (0 : Int32) ((vX0_trait E0 p1 (4 : Int32)) - p2)) h4 _) rfl rfl (Nat.le_of_ble_eq_true rfl) dX0_lower_15) hA hP hD hS [0, 1, 2, 3, 4] rfl rfl (fun H locs hP hD hS => ?_)
  have hP : va_P D vwCl (wE K a (vX0_put E0 p1 (4 : Int32) (jmax (0 : Int32) ((vX0_trait E0 p1 (4 : Int32)) - p2)))) H := hP
  have hD : va_D A (wE K a (vX0_put E0 p1 (4 : Int32) (jmax (0 : Int32) ((vX0_trait E0 p1 (4 : Int32)) - p2)))) := hD
  exact hend _ _ _ _ (by rw [hV]; exact hP) (by rw [hV]; exact hD) hS dX0_lower_18
theorem dX0_passDay_0 : decode cX0_passDay 0 = .ok (.aload_n 0, 1) := by decide +kernel
theorem dX0_passDay_1 : decode cX0_passDay 1 = .ok (.getfield 23, 3) := by decide +kernel
theorem dX0_passDay_4 : decode cX0_passDay 4 = .ok (.aload_n 0, 1) := by decide +kernel
theorem dX0_passDay_5 : decode cX0_passDay 5 = .ok (.getfield 36, 3) := by decide +kernel
theorem dX0_passDay_8 : decode cX0_passDay 8 = .ok (.bipush 6, 2) := by decide +kernel
theorem dX0_passDay_10 : decode cX0_passDay 10 = .ok (.irem, 1) := by decide +kernel
theorem dX0_passDay_11 : decode cX0_passDay 11 = .ok (.iaload, 1) := by decide +kernel
theorem dX0_passDay_12 : decode cX0_passDay 12 = .ok (.istore_n 1, 1) := by decide +kernel
theorem dX0_passDay_13 : decode cX0_passDay 13 = .ok (.iload_n 1, 1) := by decide +kernel
theorem dX0_passDay_14 : decode cX0_passDay 14 = .ok (.invokestatic 117, 3) := by decide +kernel
theorem dX0_passDay_17 : decode cX0_passDay 17 = .ok (.istore_n 2, 1) := by decide +kernel
theorem dX0_passDay_18 : decode cX0_passDay 18 = .ok (.iload_n 2, 1) := by decide +kernel
theorem dX0_passDay_19 : decode cX0_passDay 19 = .ok (.aload_n 0, 1) := by decide +kernel
theorem dX0_passDay_20 : decode cX0_passDay 20 = .ok (.getfield 32, 3) := by decide +kernel
theorem dX0_passDay_23 : decode cX0_passDay 23 = .ok (.if_icmp .ge 17, 3) := by decide +kernel
theorem dX0_passDay_26 : decode cX0_passDay 26 = .ok (.aload_n 0, 1) := by decide +kernel
theorem dX0_passDay_27 : decode cX0_passDay 27 = .ok (.iload_n 2, 1) := by decide +kernel
theorem dX0_passDay_28 : decode cX0_passDay 28 = .ok (.aload_n 0, 1) := by decide +kernel
theorem dX0_passDay_29 : decode cX0_passDay 29 = .ok (.iload_n 2, 1) := by decide +kernel
theorem dX0_passDay_30 : decode cX0_passDay 30 = .ok (.iload_n 1, 1) := by decide +kernel
theorem dX0_passDay_31 : decode cX0_passDay 31 = .ok (.invokestatic 120, 3) := by decide +kernel
theorem dX0_passDay_34 : decode cX0_passDay 34 = .ok (.invokevirtual 123, 3) := by decide +kernel
theorem dX0_passDay_37 : decode cX0_passDay 37 = .ok (.invokevirtual 125, 3) := by decide +kernel
theorem dX0_passDay_40 : decode cX0_passDay 40 = .ok (.aload_n 0, 1) := by decide +kernel
theorem dX0_passDay_41 : decode cX0_passDay 41 = .ok (.getfield 36, 3) := by decide +kernel
theorem dX0_passDay_44 : decode cX0_passDay 44 = .ok (.bipush 10, 2) := by decide +kernel
theorem dX0_passDay_46 : decode cX0_passDay 46 = .ok (.irem, 1) := by decide +kernel
theorem dX0_passDay_47 : decode cX0_passDay 47 = .ok (.bipush 9, 2) := by decide +kernel
theorem dX0_passDay_49 : decode cX0_passDay 49 = .ok (.if_icmp .ne 7, 3) := by decide +kernel
theorem dX0_passDay_52 : decode cX0_passDay 52 = .ok (.iconst 1, 1) := by decide +kernel
theorem dX0_passDay_53 : decode cX0_passDay 53 = .ok (.goto 4, 3) := by decide +kernel
theorem dX0_passDay_56 : decode cX0_passDay 56 = .ok (.iconst 0, 1) := by decide +kernel
theorem dX0_passDay_57 : decode cX0_passDay 57 = .ok (.istore_n 3, 1) := by decide +kernel
theorem dX0_passDay_58 : decode cX0_passDay 58 = .ok (.iconst 0, 1) := by decide +kernel
theorem dX0_passDay_59 : decode cX0_passDay 59 = .ok (.istore 4, 2) := by decide +kernel
theorem dX0_passDay_61 : decode cX0_passDay 61 = .ok (.iload 4, 2) := by decide +kernel
theorem dX0_passDay_63 : decode cX0_passDay 63 = .ok (.aload_n 0, 1) := by decide +kernel
theorem dX0_passDay_64 : decode cX0_passDay 64 = .ok (.getfield 32, 3) := by decide +kernel
theorem dX0_passDay_67 : decode cX0_passDay 67 = .ok (.if_icmp .ge 64, 3) := by decide +kernel
theorem dX0_passDay_70 : decode cX0_passDay 70 = .ok (.aload_n 0, 1) := by decide +kernel
theorem dX0_passDay_71 : decode cX0_passDay 71 = .ok (.iload 4, 2) := by decide +kernel
theorem dX0_passDay_73 : decode cX0_passDay 73 = .ok (.iconst 2, 1) := by decide +kernel
theorem dX0_passDay_74 : decode cX0_passDay 74 = .ok (.sipush 9999, 3) := by decide +kernel
theorem dX0_passDay_77 : decode cX0_passDay 77 = .ok (.aload_n 0, 1) := by decide +kernel
theorem dX0_passDay_78 : decode cX0_passDay 78 = .ok (.iload 4, 2) := by decide +kernel
theorem dX0_passDay_80 : decode cX0_passDay 80 = .ok (.iconst 2, 1) := by decide +kernel
theorem dX0_passDay_81 : decode cX0_passDay 81 = .ok (.invokevirtual 58, 3) := by decide +kernel
theorem dX0_passDay_84 : decode cX0_passDay 84 = .ok (.iconst 1, 1) := by decide +kernel
theorem dX0_passDay_85 : decode cX0_passDay 85 = .ok (.iadd, 1) := by decide +kernel
theorem dX0_passDay_86 : decode cX0_passDay 86 = .ok (.invokestatic 100, 3) := by decide +kernel
theorem dX0_passDay_89 : decode cX0_passDay 89 = .ok (.invokevirtual 54, 3) := by decide +kernel
theorem dX0_passDay_92 : decode cX0_passDay 92 = .ok (.aload_n 0, 1) := by decide +kernel
theorem dX0_passDay_93 : decode cX0_passDay 93 = .ok (.iload 4, 2) := by decide +kernel
theorem dX0_passDay_95 : decode cX0_passDay 95 = .ok (.iconst 5, 1) := by decide +kernel
theorem dX0_passDay_96 : decode cX0_passDay 96 = .ok (.sipush 9999, 3) := by decide +kernel
theorem dX0_passDay_99 : decode cX0_passDay 99 = .ok (.aload_n 0, 1) := by decide +kernel
theorem dX0_passDay_100 : decode cX0_passDay 100 = .ok (.iload 4, 2) := by decide +kernel
theorem dX0_passDay_102 : decode cX0_passDay 102 = .ok (.iconst 5, 1) := by decide +kernel
theorem dX0_passDay_103 : decode cX0_passDay 103 = .ok (.invokevirtual 58, 3) := by decide +kernel
theorem dX0_passDay_106 : decode cX0_passDay 106 = .ok (.iconst 1, 1) := by decide +kernel
theorem dX0_passDay_107 : decode cX0_passDay 107 = .ok (.iadd, 1) := by decide +kernel
theorem dX0_passDay_108 : decode cX0_passDay 108 = .ok (.invokestatic 100, 3) := by decide +kernel
theorem dX0_passDay_111 : decode cX0_passDay 111 = .ok (.invokevirtual 54, 3) := by decide +kernel
theorem dX0_passDay_114 : decode cX0_passDay 114 = .ok (.iload_n 3, 1) := by decide +kernel
theorem dX0_passDay_115 : decode cX0_passDay 115 = .ok (.ifCond .eq 10, 3) := by decide +kernel
theorem dX0_passDay_118 : decode cX0_passDay 118 = .ok (.aload_n 0, 1) := by decide +kernel
theorem dX0_passDay_119 : decode cX0_passDay 119 = .ok (.iload 4, 2) := by decide +kernel
theorem dX0_passDay_121 : decode cX0_passDay 121 = .ok (.iconst 1, 1) := by decide +kernel
theorem dX0_passDay_122 : decode cX0_passDay 122 = .ok (.invokevirtual 125, 3) := by decide +kernel
theorem dX0_passDay_125 : decode cX0_passDay 125 = .ok (.iinc 4 1, 3) := by decide +kernel
theorem dX0_passDay_128 : decode cX0_passDay 128 = .ok (.goto (-67), 3) := by decide +kernel
theorem dX0_passDay_131 : decode cX0_passDay 131 = .ok (.aload_n 0, 1) := by decide +kernel
theorem dX0_passDay_132 : decode cX0_passDay 132 = .ok (.ldc 129, 2) := by decide +kernel
theorem dX0_passDay_134 : decode cX0_passDay 134 = .ok (.aload_n 0, 1) := by decide +kernel
theorem dX0_passDay_135 : decode cX0_passDay 135 = .ok (.getfield 36, 3) := by decide +kernel
theorem dX0_passDay_138 : decode cX0_passDay 138 = .ok (.iconst 1, 1) := by decide +kernel
theorem dX0_passDay_139 : decode cX0_passDay 139 = .ok (.iadd, 1) := by decide +kernel
theorem dX0_passDay_140 : decode cX0_passDay 140 = .ok (.invokestatic 100, 3) := by decide +kernel
theorem dX0_passDay_143 : decode cX0_passDay 143 = .ok (.putfield 36, 3) := by decide +kernel
theorem dX0_passDay_146 : decode cX0_passDay 146 = .ok (.return_, 1) := by decide +kernel
def rX0_passDay : Room := { frames := 2, cells := 0, slots := 0, locals := 45 }
def vX0_passDay_c125 (k : ES → Int32 → Int32 → ES) (E : ES) (x3 : Int32) (x4 : Int32) : ES := (k E x3 (x4 + (1 : Int32)))
def kX0_passDay_c125 (q : ES → Int32 → Int32 → Prop) (E : ES) (x3 : Int32) (x4 : Int32) : Prop := (q E x3 (x4 + (1 : Int32)))
def vX0_passDay_c61 : Nat → ES → Int32 → Int32 → ES
  | 0, E, x3, x4 => (E)
  | n + 1, E, x3, x4 => if ((e_things E) ≤ x4) then (e_s_day E (jmin (99999 : Int32) ((e_day E) + (1 : Int32)))) else if (x3 = 0) then (vX0_passDay_c125 (fun E x3 x4 => vX0_passDay_c61 n E x3 x4) (vX0_put (vX0_put E x4 (2 : Int32) (jmin (9999 : Int32) ((vX0_trait E x4 (2 : Int32)) + (1 : Int32)))) x4 (5 : Int32) (jmin (9999 : Int32) ((vX0_trait (vX0_put E x4 (2 : Int32) (jmin (9999 : Int32) ((vX0_trait E x4 (2 : Int32)) + (1 : Int32)))) x4 (5 : Int32)) + (1 : Int32)))) x3 x4) else (vX0_passDay_c125 (fun E x3 x4 => vX0_passDay_c61 n E x3 x4) (vX0_lower (vX0_put (vX0_put E x4 (2 : Int32) (jmin (9999 : Int32) ((vX0_trait E x4 (2 : Int32)) + (1 : Int32)))) x4 (5 : Int32) (jmin (9999 : Int32) ((vX0_trait (vX0_put E x4 (2 : Int32) (jmin (9999 : Int32) ((vX0_trait E x4 (2 : Int32)) + (1 : Int32)))) x4 (5 : Int32)) + (1 : Int32)))) x4 (1 : Int32)) x3 x4)
def kX0_passDay_c61 : Nat → ES → Int32 → Int32 → Prop
  | 0, _, _, _ => False
  | n + 1, E, x3, x4 => (((e_things E) ≤ x4) → True) ∧ (¬ ((e_things E) ≤ x4) → ((kX0_trait E x4 (2 : Int32)) ∧ (kX0_put E x4 (2 : Int32) (jmin (9999 : Int32) ((vX0_trait E x4 (2 : Int32)) + (1 : Int32)))) ∧ (kX0_trait (vX0_put E x4 (2 : Int32) (jmin (9999 : Int32) ((vX0_trait E x4 (2 : Int32)) + (1 : Int32)))) x4 (5 : Int32)) ∧ (kX0_put (vX0_put E x4 (2 : Int32) (jmin (9999 : Int32) ((vX0_trait E x4 (2 : Int32)) + (1 : Int32)))) x4 (5 : Int32) (jmin (9999 : Int32) ((vX0_trait (vX0_put E x4 (2 : Int32) (jmin (9999 : Int32) ((vX0_trait E x4 (2 : Int32)) + (1 : Int32)))) x4 (5 : Int32)) + (1 : Int32)))) ∧ ((x3 = 0) → ((kX0_passDay_c125 (fun E x3 x4 => kX0_passDay_c61 n E x3 x4) (vX0_put (vX0_put E x4 (2 : Int32) (jmin (9999 : Int32) ((vX0_trait E x4 (2 : Int32)) + (1 : Int32)))) x4 (5 : Int32) (jmin (9999 : Int32) ((vX0_trait (vX0_put E x4 (2 : Int32) (jmin (9999 : Int32) ((vX0_trait E x4 (2 : Int32)) + (1 : Int32)))) x4 (5 : Int32)) + (1 : Int32)))) x3 x4))) ∧ (¬ (x3 = 0) → ((kX0_lower (vX0_put (vX0_put E x4 (2 : Int32) (jmin (9999 : Int32) ((vX0_trait E x4 (2 : Int32)) + (1 : Int32)))) x4 (5 : Int32) (jmin (9999 : Int32) ((vX0_trait (vX0_put E x4 (2 : Int32) (jmin (9999 : Int32) ((vX0_trait E x4 (2 : Int32)) + (1 : Int32)))) x4 (5 : Int32)) + (1 : Int32)))) x4 (1 : Int32)) ∧ (kX0_passDay_c125 (fun E x3 x4 => kX0_passDay_c61 n E x3 x4) (vX0_lower (vX0_put (vX0_put E x4 (2 : Int32) (jmin (9999 : Int32) ((vX0_trait E x4 (2 : Int32)) + (1 : Int32)))) x4 (5 : Int32) (jmin (9999 : Int32) ((vX0_trait (vX0_put E x4 (2 : Int32) (jmin (9999 : Int32) ((vX0_trait E x4 (2 : Int32)) + (1 : Int32)))) x4 (5 : Int32)) + (1 : Int32)))) x4 (1 : Int32)) x3 x4)))))
def vX0_passDay_c57 (E : ES) (y0 : Int32) : ES := (vX0_passDay_c61 1024 E y0 (0 : Int32))
def kX0_passDay_c57 (E : ES) (y0 : Int32) : Prop := (kX0_passDay_c61 1024 E y0 (0 : Int32))
def vX0_passDay_c40 (E : ES) : ES := if ((jrem (e_day E) (10 : Int32)) = (9 : Int32)) then (vX0_passDay_c57 E (1 : Int32)) else (vX0_passDay_c57 E (0 : Int32))
def kX0_passDay_c40 (E : ES) : Prop := (((jrem (e_day E) (10 : Int32)) = (9 : Int32)) → ((kX0_passDay_c57 E (1 : Int32)))) ∧ (¬ ((jrem (e_day E) (10 : Int32)) = (9 : Int32)) → ((kX0_passDay_c57 E (0 : Int32))))
def vX0_passDay (E0 : ES) : ES := if ((e_things E0) ≤ (vX4_thingOfBlow ((e_list E0) ((jrem (e_day E0) (6 : Int32))).toNatClampNeg))) then (vX0_passDay_c40 E0) else (vX0_passDay_c40 (vX0_lower E0 (vX4_thingOfBlow ((e_list E0) ((jrem (e_day E0) (6 : Int32))).toNatClampNeg)) (vX0_hurt E0 (vX4_thingOfBlow ((e_list E0) ((jrem (e_day E0) (6 : Int32))).toNatClampNeg)) (vX4_forceOfBlow ((e_list E0) ((jrem (e_day E0) (6 : Int32))).toNatClampNeg)))))
def kX0_passDay (E0 : ES) : Prop := (vp_in (jrem (e_day E0) (6 : Int32)) 6) ∧ (((e_things E0) ≤ (vX4_thingOfBlow ((e_list E0) ((jrem (e_day E0) (6 : Int32))).toNatClampNeg))) → ((kX0_passDay_c40 E0))) ∧ (¬ ((e_things E0) ≤ (vX4_thingOfBlow ((e_list E0) ((jrem (e_day E0) (6 : Int32))).toNatClampNeg))) → ((kX0_hurt E0 (vX4_thingOfBlow ((e_list E0) ((jrem (e_day E0) (6 : Int32))).toNatClampNeg)) (vX4_forceOfBlow ((e_list E0) ((jrem (e_day E0) (6 : Int32))).toNatClampNeg))) ∧ (kX0_lower E0 (vX4_thingOfBlow ((e_list E0) ((jrem (e_day E0) (6 : Int32))).toNatClampNeg)) (vX0_hurt E0 (vX4_thingOfBlow ((e_list E0) ((jrem (e_day E0) (6 : Int32))).toNatClampNeg)) (vX4_forceOfBlow ((e_list E0) ((jrem (e_day E0) (6 : Int32))).toNatClampNeg)))) ∧ (kX0_passDay_c40 (vX0_lower E0 (vX4_thingOfBlow ((e_list E0) ((jrem (e_day E0) (6 : Int32))).toNatClampNeg)) (vX0_hurt E0 (vX4_thingOfBlow ((e_list E0) ((jrem (e_day E0) (6 : Int32))).toNatClampNeg)) (vX4_forceOfBlow ((e_list E0) ((jrem (e_day E0) (6 : Int32))).toNatClampNeg)))))))
set_option maxHeartbeats 4000000 in
set_option maxRecDepth 100000 in
theorem hX0_passDay (l : Launch) (D : va_G) (K : JK) (G : JG) (a : Nat → Nat) (E0 : ES) (hk : kX0_passDay E0) (sz : Nat) : Met l yX0_passDay (.code yX0_passDay cX0_passDay 5 none :: jGW) rX0_passDay (jPre D (jT K) G [.ref (a 0)] (wE K a E0) sz) (jQv D (jT K) (wE K a (vX0_passDay E0)) (va_A (wE K a E0) sz)) 0 0 (va_A (wE K a E0) sz) := by
  refine jEv (by decide) (Nat.le_of_ble_eq_true rfl) (fun p e s m below meth c A Q ls hat hP hD hS hl hend => ?_)
  obtain ⟨hx, hb, hml, hown, hts, hK, hZ, hA⟩ := hat
  have hl : lv_has ls 5 [(0, .ref (a 0))] := hl
  have hc61 : ∀ (n : Nat) (E : ES) (x3 : Int32) (x4 : Int32) (H : Heap) (locs : List Loc) (ls : Array Slot), (vX0_passDay E0) = vX0_passDay_c61 n E x3 x4 → kX0_passDay_c61 n E x3 x4 → va_P D vwCl (wE K a E) H → va_D A (wE K a E) → va_S A s.heap H locs → lv_has ls 5 [(0, .ref (a 0)), (3, .int x3), (4, .int x4)] → W p l e rX0_passDay s m ([.ref (a 0)] : List Value).toArray below meth c H locs 0 0 Q (F0 m 61 ls []) := by
    intro n
    induction n with
    | zero =>
      intro E x3 x4 H locs ls hV hk hP hD hS hl
      exact False.elim hk
    | succ n ih =>
      have hc125 : ∀ (E : ES) (x3 : Int32) (x4 : Int32) (H : Heap) (locs : List Loc) (ls : Array Slot), (vX0_passDay E0) = vX0_passDay_c125 (fun E x3 x4 => vX0_passDay_c61 n E x3 x4) E x3 x4 → kX0_passDay_c125 (fun E x3 x4 => kX0_passDay_c61 n E x3 x4) E x3 x4 → va_P D vwCl (wE K a E) H → va_D A (wE K a E) → va_S A s.heap H locs → lv_has ls 5 [(0, .ref (a 0)), (3, .int x3), (4, .int x4)] → W p l e rX0_passDay s m ([.ref (a 0)] : List Value).toArray below meth c H locs 0 0 Q (F0 m 125 ls []) := by
        intro E x3 x4 H locs ls hV hk hP hD hS hl
        rw [vX0_passDay_c125] at hV
        rw [kX0_passDay_c125] at hk
        refine lv_iinc (v := (x4 + (1 : Int32))) (lv' := [(4, .int (x4 + (1 : Int32))), (0, .ref (a 0)), (3, .int x3)]) hx hb dX0_passDay_125 hl (k := 2) rfl rfl (by decide) rfl (fun ls hl => ?_)
        refine lv_goto (tgt := 61) hx hb dX0_passDay_128 (by decide) ?_
        exact ih E x3 (x4 + (1 : Int32)) _ _ _ hV hk hP hD hS (lv_sub hl [1, 2, 0] rfl)
      intro E x3 x4 H locs ls hV hk hP hD hS hl
      rw [vX0_passDay_c61] at hV
      rw [kX0_passDay_c61] at hk
      refine lv_iload hx hb dX0_passDay_61 (lv_at hl 2 rfl) ?_
      refine lv_aload_n hx hb dX0_passDay_63 rfl (lv_at hl 0 rfl) ?_
      refine gf_X0_32 (v := .int (e_things E)) hx hb hts hown hK hZ hP (0) rfl rfl dX0_passDay_64 ?_
      refine lv_icmp_ge (tgt := 131) hx hb dX0_passDay_67 (by decide) (fun c13 => ?_) (fun c13 => ?_)
      · have hV := hV.trans (if_pos c13)
        have hk := hk.1 c13
        refine lv_aload_n hx hb dX0_passDay_131 rfl (lv_at hl 0 rfl) ?_
        refine lv_ldc (v := (99999 : Int32)) hx hb hown (hts _ kc_X0_129) dX0_passDay_132 ?_
        refine lv_aload_n hx hb dX0_passDay_134 rfl (lv_at hl 0 rfl) ?_
        refine gf_X0_36 (v := .int (e_day E)) hx hb hts hown hK hZ hP (0) rfl rfl dX0_passDay_135 ?_
        refine lv_iconst (v := (1 : Int32)) hx hb dX0_passDay_138 (by decide) ?_
        refine lv_iadd hx hb dX0_passDay_139 ?_
        refine mmin_X0_100 hx hb (hml.trans hl.1.symm) hts hown (Nat.le_of_ble_eq_true rfl) (Nat.le_of_ble_eq_true rfl) (Nat.zero_le _) (Nat.zero_le _) dX0_passDay_140 ?_
        refine pf_X0_36 hx hb hts hown hK hZ hP hD hS (0) rfl rfl rfl (Nat.le_of_ble_eq_true rfl) dX0_passDay_143 (fun H locs hP hD hS => ?_)
        have hP : va_P D vwCl (wE K a (e_s_day E (jmin (99999 : Int32) ((e_day E) + (1 : Int32))))) H := hP
        have hD : va_D A (wE K a (e_s_day E (jmin (99999 : Int32) ((e_day E) + (1 : Int32))))) := hD
        exact hend _ _ _ _ (by rw [hV]; exact hP) (by rw [hV]; exact hD) hS dX0_passDay_146
      · have hV := hV.trans (if_neg c13)
        have hk := hk.2 c13
        refine lv_aload_n hx hb dX0_passDay_70 rfl (lv_at hl 0 rfl) ?_
        refine lv_iload hx hb dX0_passDay_71 (lv_at hl 2 rfl) ?_
        refine lv_iconst (v := (2 : Int32)) hx hb dX0_passDay_73 (by decide) ?_
        refine lv_sipush (v := (9999 : Int32)) hx hb dX0_passDay_74 (by decide) ?_
        refine lv_aload_n hx hb dX0_passDay_77 rfl (lv_at hl 0 rfl) ?_
        refine lv_iload hx hb dX0_passDay_78 (lv_at hl 2 rfl) ?_
        refine lv_iconst (v := (2 : Int32)) hx hb dX0_passDay_80 (by decide) ?_
        obtain ⟨h14, hk⟩ := hk
        refine jci0 (jrunV (As := [.int x4, .int (2 : Int32)]) (rest := [.int (9999 : Int32), .int (2 : Int32), .int x4, .ref (a 0)]) hx hb hml hown hts hK hZ hA hP hD hS hl.1 mf_X0_trait kl_X0_58 ⟨rfl, rfl, Nat.le_of_ble_eq_true rfl, Nat.le_of_ble_eq_true rfl⟩ ⟨Nat.zero_le _, Nat.zero_le _⟩ [0, 1, 2, 3, 4] rfl rfl rfl rfl rfl (hX0_trait l D K G a E x4 (2 : Int32) h14 _) rfl rfl (Nat.le_of_ble_eq_true rfl) dX0_passDay_81) hA hP hD hS [0, 1, 2, 3, 4] rfl (fun H locs hP hS => ?_)
        refine lv_iconst (v := (1 : Int32)) hx hb dX0_passDay_84 (by decide) ?_
        refine lv_iadd hx hb dX0_passDay_85 ?_
        refine mmin_X0_100 hx hb (hml.trans hl.1.symm) hts hown (Nat.le_of_ble_eq_true rfl) (Nat.le_of_ble_eq_true rfl) (Nat.zero_le _) (Nat.zero_le _) dX0_passDay_86 ?_
        obtain ⟨h15, hk⟩ := hk
        refine jcv (jrunV (As := [.int x4, .int (2 : Int32), .int (jmin (9999 : Int32) ((vX0_trait E x4 (2 : Int32)) + (1 : Int32)))]) (rest := []) hx hb hml hown hts hK hZ hA hP hD hS hl.1 mf_X0_put kl_X0_54 ⟨rfl, rfl, Nat.le_of_ble_eq_true rfl, Nat.le_of_ble_eq_true rfl⟩ ⟨Nat.zero_le _, Nat.zero_le _⟩ [0, 1, 2, 3, 4] rfl rfl rfl rfl rfl (hX0_put l D K G a E x4 (2 : Int32) (jmin (9999 : Int32) ((vX0_trait E x4 (2 : Int32)) + (1 : Int32))) h15 _) rfl rfl (Nat.le_of_ble_eq_true rfl) dX0_passDay_89) hA hP hD hS [0, 1, 2, 3, 4] rfl rfl (fun H locs hP hD hS => ?_)
        have hP : va_P D vwCl (wE K a (vX0_put E x4 (2 : Int32) (jmin (9999 : Int32) ((vX0_trait E x4 (2 : Int32)) + (1 : Int32))))) H := hP
        have hD : va_D A (wE K a (vX0_put E x4 (2 : Int32) (jmin (9999 : Int32) ((vX0_trait E x4 (2 : Int32)) + (1 : Int32))))) := hD
        refine lv_aload_n hx hb dX0_passDay_92 rfl (lv_at hl 0 rfl) ?_
        refine lv_iload hx hb dX0_passDay_93 (lv_at hl 2 rfl) ?_
        refine lv_iconst (v := (5 : Int32)) hx hb dX0_passDay_95 (by decide) ?_
        refine lv_sipush (v := (9999 : Int32)) hx hb dX0_passDay_96 (by decide) ?_
        refine lv_aload_n hx hb dX0_passDay_99 rfl (lv_at hl 0 rfl) ?_
        refine lv_iload hx hb dX0_passDay_100 (lv_at hl 2 rfl) ?_
        refine lv_iconst (v := (5 : Int32)) hx hb dX0_passDay_102 (by decide) ?_
        obtain ⟨h16, hk⟩ := hk
        refine jci0 (jrunV (As := [.int x4, .int (5 : Int32)]) (rest := [.int (9999 : Int32), .int (5 : Int32), .int x4, .ref (a 0)]) hx hb hml hown hts hK hZ hA hP hD hS hl.1 mf_X0_trait kl_X0_58 ⟨rfl, rfl, Nat.le_of_ble_eq_true rfl, Nat.le_of_ble_eq_true rfl⟩ ⟨Nat.zero_le _, Nat.zero_le _⟩ [0, 1, 2, 3, 4] rfl rfl rfl rfl rfl (hX0_trait l D K G a (vX0_put E x4 (2 : Int32) (jmin (9999 : Int32) ((vX0_trait E x4 (2 : Int32)) + (1 : Int32)))) x4 (5 : Int32) h16 _) rfl rfl (Nat.le_of_ble_eq_true rfl) dX0_passDay_103) hA hP hD hS [0, 1, 2, 3, 4] rfl (fun H locs hP hS => ?_)
        refine lv_iconst (v := (1 : Int32)) hx hb dX0_passDay_106 (by decide) ?_
        refine lv_iadd hx hb dX0_passDay_107 ?_
        refine mmin_X0_100 hx hb (hml.trans hl.1.symm) hts hown (Nat.le_of_ble_eq_true rfl) (Nat.le_of_ble_eq_true rfl) (Nat.zero_le _) (Nat.zero_le _) dX0_passDay_108 ?_
        obtain ⟨h17, hk⟩ := hk
        refine jcv (jrunV (As := [.int x4, .int (5 : Int32), .int (jmin (9999 : Int32) ((vX0_trait (vX0_put E x4 (2 : Int32) (jmin (9999 : Int32) ((vX0_trait E x4 (2 : Int32)) + (1 : Int32)))) x4 (5 : Int32)) + (1 : Int32)))]) (rest := []) hx hb hml hown hts hK hZ hA hP hD hS hl.1 mf_X0_put kl_X0_54 ⟨rfl, rfl, Nat.le_of_ble_eq_true rfl, Nat.le_of_ble_eq_true rfl⟩ ⟨Nat.zero_le _, Nat.zero_le _⟩ [0, 1, 2, 3, 4] rfl rfl rfl rfl rfl (hX0_put l D K G a (vX0_put E x4 (2 : Int32) (jmin (9999 : Int32) ((vX0_trait E x4 (2 : Int32)) + (1 : Int32)))) x4 (5 : Int32) (jmin (9999 : Int32) ((vX0_trait (vX0_put E x4 (2 : Int32) (jmin (9999 : Int32) ((vX0_trait E x4 (2 : Int32)) + (1 : Int32)))) x4 (5 : Int32)) + (1 : Int32))) h17 _) rfl rfl (Nat.le_of_ble_eq_true rfl) dX0_passDay_111) hA hP hD hS [0, 1, 2, 3, 4] rfl rfl (fun H locs hP hD hS => ?_)
        have hP : va_P D vwCl (wE K a (vX0_put (vX0_put E x4 (2 : Int32) (jmin (9999 : Int32) ((vX0_trait E x4 (2 : Int32)) + (1 : Int32)))) x4 (5 : Int32) (jmin (9999 : Int32) ((vX0_trait (vX0_put E x4 (2 : Int32) (jmin (9999 : Int32) ((vX0_trait E x4 (2 : Int32)) + (1 : Int32)))) x4 (5 : Int32)) + (1 : Int32))))) H := hP
        have hD : va_D A (wE K a (vX0_put (vX0_put E x4 (2 : Int32) (jmin (9999 : Int32) ((vX0_trait E x4 (2 : Int32)) + (1 : Int32)))) x4 (5 : Int32) (jmin (9999 : Int32) ((vX0_trait (vX0_put E x4 (2 : Int32) (jmin (9999 : Int32) ((vX0_trait E x4 (2 : Int32)) + (1 : Int32)))) x4 (5 : Int32)) + (1 : Int32))))) := hD
        refine lv_iload_n hx hb dX0_passDay_114 rfl (lv_at hl 1 rfl) ?_
        refine lv_if_eq (tgt := 125) hx hb dX0_passDay_115 (by decide) (fun c18 => ?_) (fun c18 => ?_)
        · have hV := hV.trans (if_pos c18)
          have hk := hk.1 c18
          exact hc125 (vX0_put (vX0_put E x4 (2 : Int32) (jmin (9999 : Int32) ((vX0_trait E x4 (2 : Int32)) + (1 : Int32)))) x4 (5 : Int32) (jmin (9999 : Int32) ((vX0_trait (vX0_put E x4 (2 : Int32) (jmin (9999 : Int32) ((vX0_trait E x4 (2 : Int32)) + (1 : Int32)))) x4 (5 : Int32)) + (1 : Int32)))) x3 x4 _ _ _ hV hk hP hD hS (lv_sub hl [0, 1, 2] rfl)
        · have hV := hV.trans (if_neg c18)
          have hk := hk.2 c18
          refine lv_aload_n hx hb dX0_passDay_118 rfl (lv_at hl 0 rfl) ?_
          refine lv_iload hx hb dX0_passDay_119 (lv_at hl 2 rfl) ?_
          refine lv_iconst (v := (1 : Int32)) hx hb dX0_passDay_121 (by decide) ?_
          obtain ⟨h19, hk⟩ := hk
          refine jcv (jrunV (As := [.int x4, .int (1 : Int32)]) (rest := []) hx hb hml hown hts hK hZ hA hP hD hS hl.1 mf_X0_lower kl_X0_125 ⟨rfl, rfl, Nat.le_of_ble_eq_true rfl, Nat.le_of_ble_eq_true rfl⟩ ⟨Nat.zero_le _, Nat.zero_le _⟩ [0, 1, 2, 3, 4] rfl rfl rfl rfl rfl (hX0_lower l D K G a (vX0_put (vX0_put E x4 (2 : Int32) (jmin (9999 : Int32) ((vX0_trait E x4 (2 : Int32)) + (1 : Int32)))) x4 (5 : Int32) (jmin (9999 : Int32) ((vX0_trait (vX0_put E x4 (2 : Int32) (jmin (9999 : Int32) ((vX0_trait E x4 (2 : Int32)) + (1 : Int32)))) x4 (5 : Int32)) + (1 : Int32)))) x4 (1 : Int32) h19 _) rfl rfl (Nat.le_of_ble_eq_true rfl) dX0_passDay_122) hA hP hD hS [0, 1, 2, 3, 4] rfl rfl (fun H locs hP hD hS => ?_)
          have hP : va_P D vwCl (wE K a (vX0_lower (vX0_put (vX0_put E x4 (2 : Int32) (jmin (9999 : Int32) ((vX0_trait E x4 (2 : Int32)) + (1 : Int32)))) x4 (5 : Int32) (jmin (9999 : Int32) ((vX0_trait (vX0_put E x4 (2 : Int32) (jmin (9999 : Int32) ((vX0_trait E x4 (2 : Int32)) + (1 : Int32)))) x4 (5 : Int32)) + (1 : Int32)))) x4 (1 : Int32))) H := hP
          have hD : va_D A (wE K a (vX0_lower (vX0_put (vX0_put E x4 (2 : Int32) (jmin (9999 : Int32) ((vX0_trait E x4 (2 : Int32)) + (1 : Int32)))) x4 (5 : Int32) (jmin (9999 : Int32) ((vX0_trait (vX0_put E x4 (2 : Int32) (jmin (9999 : Int32) ((vX0_trait E x4 (2 : Int32)) + (1 : Int32)))) x4 (5 : Int32)) + (1 : Int32)))) x4 (1 : Int32))) := hD
          exact hc125 (vX0_lower (vX0_put (vX0_put E x4 (2 : Int32) (jmin (9999 : Int32) ((vX0_trait E x4 (2 : Int32)) + (1 : Int32)))) x4 (5 : Int32) (jmin (9999 : Int32) ((vX0_trait (vX0_put E x4 (2 : Int32) (jmin (9999 : Int32) ((vX0_trait E x4 (2 : Int32)) + (1 : Int32)))) x4 (5 : Int32)) + (1 : Int32)))) x4 (1 : Int32)) x3 x4 _ _ _ hV hk hP hD hS (lv_sub hl [0, 1, 2] rfl)
  have hc57 : ∀ (E : ES) (y0 : Int32) (H : Heap) (locs : List Loc) (ls : Array Slot), (vX0_passDay E0) = vX0_passDay_c57 E y0 → kX0_passDay_c57 E y0 → va_P D vwCl (wE K a E) H → va_D A (wE K a E) → va_S A s.heap H locs → lv_has ls 5 [(0, .ref (a 0))] → W p l e rX0_passDay s m ([.ref (a 0)] : List Value).toArray below meth c H locs 0 0 Q (F0 m 57 ls [.int y0]) := by
    intro E y0 H locs ls hV hk hP hD hS hl
    rw [vX0_passDay_c57] at hV
    rw [kX0_passDay_c57] at hk
    refine lv_istore_n (lv' := [(3, .int y0), (0, .ref (a 0))]) hx hb dX0_passDay_57 rfl hl (by decide) rfl (fun ls hl => ?_)
    refine lv_iconst (v := (0 : Int32)) hx hb dX0_passDay_58 (by decide) ?_
    refine lv_istore (lv' := [(4, .int (0 : Int32)), (3, .int y0), (0, .ref (a 0))]) hx hb dX0_passDay_59 hl (by decide) rfl (fun ls hl => ?_)
    exact hc61 1024 E y0 (0 : Int32) _ _ _ hV hk hP hD hS (lv_sub hl [2, 1, 0] rfl)
  have hc40 : ∀ (E : ES) (H : Heap) (locs : List Loc) (ls : Array Slot), (vX0_passDay E0) = vX0_passDay_c40 E → kX0_passDay_c40 E → va_P D vwCl (wE K a E) H → va_D A (wE K a E) → va_S A s.heap H locs → lv_has ls 5 [(0, .ref (a 0))] → W p l e rX0_passDay s m ([.ref (a 0)] : List Value).toArray below meth c H locs 0 0 Q (F0 m 40 ls []) := by
    intro E H locs ls hV hk hP hD hS hl
    rw [vX0_passDay_c40] at hV
    rw [kX0_passDay_c40] at hk
    refine lv_aload_n hx hb dX0_passDay_40 rfl (lv_at hl 0 rfl) ?_
    refine gf_X0_36 (v := .int (e_day E)) hx hb hts hown hK hZ hP (0) rfl rfl dX0_passDay_41 ?_
    refine lv_bipush (v := (10 : Int32)) hx hb dX0_passDay_44 (by decide) ?_
    refine j_irem hx hb dX0_passDay_46 (by decide) ?_
    refine lv_bipush (v := (9 : Int32)) hx hb dX0_passDay_47 (by decide) ?_
    refine lv_icmp_ne (tgt := 56) hx hb dX0_passDay_49 (by decide) (fun c20 => ?_) (fun c20 => ?_)
    · have hV := hV.trans (if_neg c20)
      have hk := hk.2 c20
      refine lv_iconst (v := (0 : Int32)) hx hb dX0_passDay_56 (by decide) ?_
      exact hc57 E (0 : Int32) _ _ _ hV hk hP hD hS (lv_sub hl [0] rfl)
    · have hV := hV.trans (if_pos c20)
      have hk := hk.1 c20
      refine lv_iconst (v := (1 : Int32)) hx hb dX0_passDay_52 (by decide) ?_
      refine lv_goto (tgt := 57) hx hb dX0_passDay_53 (by decide) ?_
      exact hc57 E (1 : Int32) _ _ _ hV hk hP hD hS (lv_sub hl [0] rfl)
  have hV := vX0_passDay.eq_1 E0
  rw [kX0_passDay] at hk
  refine lv_aload_n hx hb dX0_passDay_0 rfl (lv_at hl 0 rfl) ?_
  refine gf_X0_23 (v := .ref (a 2)) hx hb hts hown hK hZ hP (0) rfl rfl dX0_passDay_1 ?_
  refine lv_aload_n hx hb dX0_passDay_4 rfl (lv_at hl 0 rfl) ?_
  refine gf_X0_36 (v := .int (e_day E0)) hx hb hts hown hK hZ hP (0) rfl rfl dX0_passDay_5 ?_
  refine lv_bipush (v := (6 : Int32)) hx hb dX0_passDay_8 (by decide) ?_
  refine j_irem hx hb dX0_passDay_10 (by decide) ?_
  obtain ⟨h21, hk⟩ := hk
  refine va_iald hx hb hK hP (2) 0 rfl rfl h21 dX0_passDay_11 ?_
  refine lv_istore_n (lv' := [(1, .int ((e_list E0) ((jrem (e_day E0) (6 : Int32))).toNatClampNeg)), (0, .ref (a 0))]) hx hb dX0_passDay_12 rfl hl (by decide) rfl (fun ls hl => ?_)
  refine lv_iload_n hx hb dX0_passDay_13 rfl (lv_at hl 0 rfl) ?_
  refine jci0 (jrunSN (As := [.int ((e_list E0) ((jrem (e_day E0) (6 : Int32))).toNatClampNeg)]) (rest := []) hx hb hml hown hts hK hZ hA hP hD hS hl.1 mf_X4_thingOfBlow kl_X0_117 ⟨rfl, rfl, Nat.le_of_ble_eq_true rfl, Nat.le_of_ble_eq_true rfl⟩ ⟨Nat.zero_le _, Nat.zero_le _⟩ [] rfl rfl (hX4_thingOfBlow l D K G ((e_list E0) ((jrem (e_day E0) (6 : Int32))).toNatClampNeg) _) rfl rfl (Nat.le_of_ble_eq_true rfl) dX0_passDay_14) hA hP hD hS [] rfl (fun H locs hP hS => ?_)
  refine lv_istore_n (lv' := [(2, .int (vX4_thingOfBlow ((e_list E0) ((jrem (e_day E0) (6 : Int32))).toNatClampNeg))), (1, .int ((e_list E0) ((jrem (e_day E0) (6 : Int32))).toNatClampNeg)), (0, .ref (a 0))]) hx hb dX0_passDay_17 rfl hl (by decide) rfl (fun ls hl => ?_)
  refine lv_iload_n hx hb dX0_passDay_18 rfl (lv_at hl 0 rfl) ?_
  refine lv_aload_n hx hb dX0_passDay_19 rfl (lv_at hl 2 rfl) ?_
  refine gf_X0_32 (v := .int (e_things E0)) hx hb hts hown hK hZ hP (0) rfl rfl dX0_passDay_20 ?_
  refine lv_icmp_ge (tgt := 40) hx hb dX0_passDay_23 (by decide) (fun c22 => ?_) (fun c22 => ?_)
  · have hV := hV.trans (if_pos c22)
    have hk := hk.1 c22
    exact hc40 E0 _ _ _ hV hk hP hD hS (lv_sub hl [2] rfl)
  · have hV := hV.trans (if_neg c22)
    have hk := hk.2 c22
    refine lv_aload_n hx hb dX0_passDay_26 rfl (lv_at hl 2 rfl) ?_
    refine lv_iload_n hx hb dX0_passDay_27 rfl (lv_at hl 0 rfl) ?_
    refine lv_aload_n hx hb dX0_passDay_28 rfl (lv_at hl 2 rfl) ?_
    refine lv_iload_n hx hb dX0_passDay_29 rfl (lv_at hl 0 rfl) ?_
    refine lv_iload_n hx hb dX0_passDay_30 rfl (lv_at hl 1 rfl) ?_
    refine jci0 (jrunSN (As := [.int ((e_list E0) ((jrem (e_day E0) (6 : Int32))).toNatClampNeg)]) (rest := [.int (vX4_thingOfBlow ((e_list E0) ((jrem (e_day E0) (6 : Int32))).toNatClampNeg)), .ref (a 0), .int (vX4_thingOfBlow ((e_list E0) ((jrem (e_day E0) (6 : Int32))).toNatClampNeg)), .ref (a 0)]) hx hb hml hown hts hK hZ hA hP hD hS hl.1 mf_X4_forceOfBlow kl_X0_120 ⟨rfl, rfl, Nat.le_of_ble_eq_true rfl, Nat.le_of_ble_eq_true rfl⟩ ⟨Nat.zero_le _, Nat.zero_le _⟩ [] rfl rfl (hX4_forceOfBlow l D K G ((e_list E0) ((jrem (e_day E0) (6 : Int32))).toNatClampNeg) _) rfl rfl (Nat.le_of_ble_eq_true rfl) dX0_passDay_31) hA hP hD hS [] rfl (fun H locs hP hS => ?_)
    obtain ⟨h23, hk⟩ := hk
    refine jci0 (jrunV (As := [.int (vX4_thingOfBlow ((e_list E0) ((jrem (e_day E0) (6 : Int32))).toNatClampNeg)), .int (vX4_forceOfBlow ((e_list E0) ((jrem (e_day E0) (6 : Int32))).toNatClampNeg))]) (rest := [.int (vX4_thingOfBlow ((e_list E0) ((jrem (e_day E0) (6 : Int32))).toNatClampNeg)), .ref (a 0)]) hx hb hml hown hts hK hZ hA hP hD hS hl.1 mf_X0_hurt kl_X0_123 ⟨rfl, rfl, Nat.le_of_ble_eq_true rfl, Nat.le_of_ble_eq_true rfl⟩ ⟨Nat.zero_le _, Nat.zero_le _⟩ [0, 1, 2, 3, 4] rfl rfl rfl rfl rfl (hX0_hurt l D K G a E0 (vX4_thingOfBlow ((e_list E0) ((jrem (e_day E0) (6 : Int32))).toNatClampNeg)) (vX4_forceOfBlow ((e_list E0) ((jrem (e_day E0) (6 : Int32))).toNatClampNeg)) h23 _) rfl rfl (Nat.le_of_ble_eq_true rfl) dX0_passDay_34) hA hP hD hS [0, 1, 2, 3, 4] rfl (fun H locs hP hS => ?_)
    obtain ⟨h24, hk⟩ := hk
    refine jcv (jrunV (As := [.int (vX4_thingOfBlow ((e_list E0) ((jrem (e_day E0) (6 : Int32))).toNatClampNeg)), .int (vX0_hurt E0 (vX4_thingOfBlow ((e_list E0) ((jrem (e_day E0) (6 : Int32))).toNatClampNeg)) (vX4_forceOfBlow ((e_list E0) ((jrem (e_day E0) (6 : Int32))).toNatClampNeg)))]) (rest := []) hx hb hml hown hts hK hZ hA hP hD hS hl.1 mf_X0_lower kl_X0_125 ⟨rfl, rfl, Nat.le_of_ble_eq_true rfl, Nat.le_of_ble_eq_true rfl⟩ ⟨Nat.zero_le _, Nat.zero_le _⟩ [0, 1, 2, 3, 4] rfl rfl rfl rfl rfl (hX0_lower l D K G a E0 (vX4_thingOfBlow ((e_list E0) ((jrem (e_day E0) (6 : Int32))).toNatClampNeg)) (vX0_hurt E0 (vX4_thingOfBlow ((e_list E0) ((jrem (e_day E0) (6 : Int32))).toNatClampNeg)) (vX4_forceOfBlow ((e_list E0) ((jrem (e_day E0) (6 : Int32))).toNatClampNeg))) h24 _) rfl rfl (Nat.le_of_ble_eq_true rfl) dX0_passDay_37) hA hP hD hS [0, 1, 2, 3, 4] rfl rfl (fun H locs hP hD hS => ?_)
    have hP : va_P D vwCl (wE K a (vX0_lower E0 (vX4_thingOfBlow ((e_list E0) ((jrem (e_day E0) (6 : Int32))).toNatClampNeg)) (vX0_hurt E0 (vX4_thingOfBlow ((e_list E0) ((jrem (e_day E0) (6 : Int32))).toNatClampNeg)) (vX4_forceOfBlow ((e_list E0) ((jrem (e_day E0) (6 : Int32))).toNatClampNeg))))) H := hP
    have hD : va_D A (wE K a (vX0_lower E0 (vX4_thingOfBlow ((e_list E0) ((jrem (e_day E0) (6 : Int32))).toNatClampNeg)) (vX0_hurt E0 (vX4_thingOfBlow ((e_list E0) ((jrem (e_day E0) (6 : Int32))).toNatClampNeg)) (vX4_forceOfBlow ((e_list E0) ((jrem (e_day E0) (6 : Int32))).toNatClampNeg))))) := hD
    exact hc40 (vX0_lower E0 (vX4_thingOfBlow ((e_list E0) ((jrem (e_day E0) (6 : Int32))).toNatClampNeg)) (vX0_hurt E0 (vX4_thingOfBlow ((e_list E0) ((jrem (e_day E0) (6 : Int32))).toNatClampNeg)) (vX4_forceOfBlow ((e_list E0) ((jrem (e_day E0) (6 : Int32))).toNatClampNeg)))) _ _ _ hV hk hP hD hS (lv_sub hl [2] rfl)
theorem dX0_passDays_0 : decode cX0_passDays 0 = .ok (.iconst 0, 1) := by decide +kernel
theorem dX0_passDays_1 : decode cX0_passDays 1 = .ok (.istore_n 2, 1) := by decide +kernel
theorem dX0_passDays_2 : decode cX0_passDays 2 = .ok (.iload_n 2, 1) := by decide +kernel
theorem dX0_passDays_3 : decode cX0_passDays 3 = .ok (.iload_n 1, 1) := by decide +kernel
theorem dX0_passDays_4 : decode cX0_passDays 4 = .ok (.if_icmp .ge 13, 3) := by decide +kernel
theorem dX0_passDays_7 : decode cX0_passDays 7 = .ok (.aload_n 0, 1) := by decide +kernel
theorem dX0_passDays_8 : decode cX0_passDays 8 = .ok (.invokevirtual 114, 3) := by decide +kernel
theorem dX0_passDays_11 : decode cX0_passDays 11 = .ok (.iinc 2 1, 3) := by decide +kernel
theorem dX0_passDays_14 : decode cX0_passDays 14 = .ok (.goto (-12), 3) := by decide +kernel
theorem dX0_passDays_17 : decode cX0_passDays 17 = .ok (.return_, 1) := by decide +kernel
def rX0_passDays : Room := { frames := 3, cells := 0, slots := 0, locals := 69 }
def vX0_passDays_c2 (p1 : Int32) : Nat → ES → Int32 → ES
  | 0, E, x2 => (E)
  | n + 1, E, x2 => if (p1 ≤ x2) then E else (vX0_passDays_c2 p1 n (vX0_passDay E) (x2 + (1 : Int32)))
def kX0_passDays_c2 (p1 : Int32) : Nat → ES → Int32 → Prop
  | 0, _, _ => False
  | n + 1, E, x2 => ((p1 ≤ x2) → True) ∧ (¬ (p1 ≤ x2) → ((kX0_passDay E) ∧ (kX0_passDays_c2 p1 n (vX0_passDay E) (x2 + (1 : Int32)))))
def vX0_passDays (E0 : ES) (p1 : Int32) : ES := (vX0_passDays_c2 p1 1024 E0 (0 : Int32))
def kX0_passDays (E0 : ES) (p1 : Int32) : Prop := (kX0_passDays_c2 p1 1024 E0 (0 : Int32))
set_option maxHeartbeats 4000000 in
set_option maxRecDepth 100000 in
theorem hX0_passDays (l : Launch) (D : va_G) (K : JK) (G : JG) (a : Nat → Nat) (E0 : ES) (p1 : Int32) (hk : kX0_passDays E0 p1) (sz : Nat) : Met l yX0_passDays (.code yX0_passDays cX0_passDays 3 none :: jGW) rX0_passDays (jPre D (jT K) G [.ref (a 0), .int p1] (wE K a E0) sz) (jQv D (jT K) (wE K a (vX0_passDays E0 p1)) (va_A (wE K a E0) sz)) 0 0 (va_A (wE K a E0) sz) := by
  refine jEv (by decide) (Nat.le_of_ble_eq_true rfl) (fun p e s m below meth c A Q ls hat hP hD hS hl hend => ?_)
  obtain ⟨hx, hb, hml, hown, hts, hK, hZ, hA⟩ := hat
  have hl : lv_has ls 3 [(0, .ref (a 0)), (1, .int p1)] := hl
  have hc2 : ∀ (n : Nat) (E : ES) (x2 : Int32) (H : Heap) (locs : List Loc) (ls : Array Slot), (vX0_passDays E0 p1) = vX0_passDays_c2 p1 n E x2 → kX0_passDays_c2 p1 n E x2 → va_P D vwCl (wE K a E) H → va_D A (wE K a E) → va_S A s.heap H locs → lv_has ls 3 [(0, .ref (a 0)), (1, .int p1), (2, .int x2)] → W p l e rX0_passDays s m ([.ref (a 0), .int p1] : List Value).toArray below meth c H locs 0 0 Q (F0 m 2 ls []) := by
    intro n
    induction n with
    | zero =>
      intro E x2 H locs ls hV hk hP hD hS hl
      exact False.elim hk
    | succ n ih =>
      intro E x2 H locs ls hV hk hP hD hS hl
      rw [vX0_passDays_c2] at hV
      rw [kX0_passDays_c2] at hk
      refine lv_iload_n hx hb dX0_passDays_2 rfl (lv_at hl 2 rfl) ?_
      refine lv_iload_n hx hb dX0_passDays_3 rfl (lv_at hl 1 rfl) ?_
      refine lv_icmp_ge (tgt := 17) hx hb dX0_passDays_4 (by decide) (fun c3 => ?_) (fun c3 => ?_)
      · have hV := hV.trans (if_pos c3)
        have hk := hk.1 c3
        exact hend _ _ _ _ (by rw [hV]; exact hP) (by rw [hV]; exact hD) hS dX0_passDays_17
      · have hV := hV.trans (if_neg c3)
        have hk := hk.2 c3
        refine lv_aload_n hx hb dX0_passDays_7 rfl (lv_at hl 0 rfl) ?_
        obtain ⟨h4, hk⟩ := hk
        refine jcv (jrunV (As := []) (rest := []) hx hb hml hown hts hK hZ hA hP hD hS hl.1 mf_X0_passDay kl_X0_114 ⟨rfl, rfl, Nat.le_of_ble_eq_true rfl, Nat.le_of_ble_eq_true rfl⟩ ⟨Nat.zero_le _, Nat.zero_le _⟩ [0, 1, 2, 3, 4] rfl rfl rfl rfl rfl (hX0_passDay l D K G a E h4 _) rfl rfl (Nat.le_of_ble_eq_true rfl) dX0_passDays_8) hA hP hD hS [0, 1, 2, 3, 4] rfl rfl (fun H locs hP hD hS => ?_)
        have hP : va_P D vwCl (wE K a (vX0_passDay E)) H := hP
        have hD : va_D A (wE K a (vX0_passDay E)) := hD
        refine lv_iinc (v := (x2 + (1 : Int32))) (lv' := [(2, .int (x2 + (1 : Int32))), (0, .ref (a 0)), (1, .int p1)]) hx hb dX0_passDays_11 hl (k := 2) rfl rfl (by decide) rfl (fun ls hl => ?_)
        refine lv_goto (tgt := 2) hx hb dX0_passDays_14 (by decide) ?_
        exact ih (vX0_passDay E) (x2 + (1 : Int32)) _ _ _ hV hk hP hD hS (lv_sub hl [1, 2, 0] rfl)
  have hV := vX0_passDays.eq_1 E0 p1
  rw [kX0_passDays] at hk
  refine lv_iconst (v := (0 : Int32)) hx hb dX0_passDays_0 (by decide) ?_
  refine lv_istore_n (lv' := [(2, .int (0 : Int32)), (0, .ref (a 0)), (1, .int p1)]) hx hb dX0_passDays_1 rfl hl (by decide) rfl (fun ls hl => ?_)
  exact hc2 1024 E0 (0 : Int32) _ _ _ hV hk hP hD hS (lv_sub hl [1, 2, 0] rfl)
theorem dX0_worth_0 : decode cX0_worth 0 = .ok (.aload_n 0, 1) := by decide +kernel
theorem dX0_worth_1 : decode cX0_worth 1 = .ok (.iload_n 1, 1) := by decide +kernel
theorem dX0_worth_2 : decode cX0_worth 2 = .ok (.iconst 0, 1) := by decide +kernel
theorem dX0_worth_3 : decode cX0_worth 3 = .ok (.invokevirtual 58, 3) := by decide +kernel
theorem dX0_worth_6 : decode cX0_worth 6 = .ok (.aload_n 0, 1) := by decide +kernel
theorem dX0_worth_7 : decode cX0_worth 7 = .ok (.iload_n 1, 1) := by decide +kernel
theorem dX0_worth_8 : decode cX0_worth 8 = .ok (.iconst 1, 1) := by decide +kernel
theorem dX0_worth_9 : decode cX0_worth 9 = .ok (.invokevirtual 58, 3) := by decide +kernel
theorem dX0_worth_12 : decode cX0_worth 12 = .ok (.aload_n 0, 1) := by decide +kernel
theorem dX0_worth_13 : decode cX0_worth 13 = .ok (.iload_n 1, 1) := by decide +kernel
theorem dX0_worth_14 : decode cX0_worth 14 = .ok (.iconst 2, 1) := by decide +kernel
theorem dX0_worth_15 : decode cX0_worth 15 = .ok (.invokevirtual 58, 3) := by decide +kernel
theorem dX0_worth_18 : decode cX0_worth 18 = .ok (.invokestatic 84, 3) := by decide +kernel
theorem dX0_worth_21 : decode cX0_worth 21 = .ok (.ireturn, 1) := by decide +kernel
def rX0_worth : Room := { frames := 3, cells := 0, slots := 0, locals := 59 }
def vX0_worth (E0 : ES) (p1 : Int32) : Int32 := (vX1_worth (vX0_trait E0 p1 (0 : Int32)) (vX0_trait E0 p1 (1 : Int32)) (vX0_trait E0 p1 (2 : Int32)))
def kX0_worth (E0 : ES) (p1 : Int32) : Prop := (kX0_trait E0 p1 (0 : Int32)) ∧ (kX0_trait E0 p1 (1 : Int32)) ∧ (kX0_trait E0 p1 (2 : Int32)) ∧ (kX1_worth (vX0_trait E0 p1 (0 : Int32)) (vX0_trait E0 p1 (1 : Int32)) (vX0_trait E0 p1 (2 : Int32))) ∧ True
set_option maxHeartbeats 4000000 in
set_option maxRecDepth 100000 in
theorem hX0_worth (l : Launch) (D : va_G) (K : JK) (G : JG) (a : Nat → Nat) (E0 : ES) (p1 : Int32) (hk : kX0_worth E0 p1) (sz : Nat) : Met l yX0_worth (.code yX0_worth cX0_worth 2 (some .int) :: jGW) rX0_worth (jPre D (jT K) G [.ref (a 0), .int p1] (wE K a E0) sz) (jQi D (jT K) (vX0_worth E0 p1) (wE K a E0) (va_A (wE K a E0) sz)) 0 0 (va_A (wE K a E0) sz) := by
  refine jEi (by decide) (Nat.le_of_ble_eq_true rfl) (fun p e s m below meth c A Q ls hat hP hD hS hl hend => ?_)
  obtain ⟨hx, hb, hml, hown, hts, hK, hZ, hA⟩ := hat
  have hl : lv_has ls 2 [(0, .ref (a 0)), (1, .int p1)] := hl
  have hV := vX0_worth.eq_1 E0 p1
  rw [kX0_worth] at hk
  refine lv_aload_n hx hb dX0_worth_0 rfl (lv_at hl 0 rfl) ?_
  refine lv_iload_n hx hb dX0_worth_1 rfl (lv_at hl 1 rfl) ?_
  refine lv_iconst (v := (0 : Int32)) hx hb dX0_worth_2 (by decide) ?_
  obtain ⟨h5, hk⟩ := hk
  refine jci0 (jrunV (As := [.int p1, .int (0 : Int32)]) (rest := []) hx hb hml hown hts hK hZ hA hP hD hS hl.1 mf_X0_trait kl_X0_58 ⟨rfl, rfl, Nat.le_of_ble_eq_true rfl, Nat.le_of_ble_eq_true rfl⟩ ⟨Nat.zero_le _, Nat.zero_le _⟩ [0, 1, 2, 3, 4] rfl rfl rfl rfl rfl (hX0_trait l D K G a E0 p1 (0 : Int32) h5 _) rfl rfl (Nat.le_of_ble_eq_true rfl) dX0_worth_3) hA hP hD hS [0, 1, 2, 3, 4] rfl (fun H locs hP hS => ?_)
  refine lv_aload_n hx hb dX0_worth_6 rfl (lv_at hl 0 rfl) ?_
  refine lv_iload_n hx hb dX0_worth_7 rfl (lv_at hl 1 rfl) ?_
  refine lv_iconst (v := (1 : Int32)) hx hb dX0_worth_8 (by decide) ?_
  obtain ⟨h6, hk⟩ := hk
  refine jci0 (jrunV (As := [.int p1, .int (1 : Int32)]) (rest := [.int (vX0_trait E0 p1 (0 : Int32))]) hx hb hml hown hts hK hZ hA hP hD hS hl.1 mf_X0_trait kl_X0_58 ⟨rfl, rfl, Nat.le_of_ble_eq_true rfl, Nat.le_of_ble_eq_true rfl⟩ ⟨Nat.zero_le _, Nat.zero_le _⟩ [0, 1, 2, 3, 4] rfl rfl rfl rfl rfl (hX0_trait l D K G a E0 p1 (1 : Int32) h6 _) rfl rfl (Nat.le_of_ble_eq_true rfl) dX0_worth_9) hA hP hD hS [0, 1, 2, 3, 4] rfl (fun H locs hP hS => ?_)
  refine lv_aload_n hx hb dX0_worth_12 rfl (lv_at hl 0 rfl) ?_
  refine lv_iload_n hx hb dX0_worth_13 rfl (lv_at hl 1 rfl) ?_
  refine lv_iconst (v := (2 : Int32)) hx hb dX0_worth_14 (by decide) ?_
  obtain ⟨h7, hk⟩ := hk
  refine jci0 (jrunV (As := [.int p1, .int (2 : Int32)]) (rest := [.int (vX0_trait E0 p1 (1 : Int32)), .int (vX0_trait E0 p1 (0 : Int32))]) hx hb hml hown hts hK hZ hA hP hD hS hl.1 mf_X0_trait kl_X0_58 ⟨rfl, rfl, Nat.le_of_ble_eq_true rfl, Nat.le_of_ble_eq_true rfl⟩ ⟨Nat.zero_le _, Nat.zero_le _⟩ [0, 1, 2, 3, 4] rfl rfl rfl rfl rfl (hX0_trait l D K G a E0 p1 (2 : Int32) h7 _) rfl rfl (Nat.le_of_ble_eq_true rfl) dX0_worth_15) hA hP hD hS [0, 1, 2, 3, 4] rfl (fun H locs hP hS => ?_)
  obtain ⟨h8, hk⟩ := hk
  refine jci0 (jrunS (As := [.int (vX0_trait E0 p1 (0 : Int32)), .int (vX0_trait E0 p1 (1 : Int32)), .int (vX0_trait E0 p1 (2 : Int32))]) (rest := []) hx hb hml hown hts hK hZ hA hP hD hS hl.1 mf_X1_worth kl_X0_84 ⟨rfl, rfl, Nat.le_of_ble_eq_true rfl, Nat.le_of_ble_eq_true rfl⟩ ⟨Nat.zero_le _, Nat.zero_le _⟩ [] rfl rfl (hX1_worth l D K G (vX0_trait E0 p1 (0 : Int32)) (vX0_trait E0 p1 (1 : Int32)) (vX0_trait E0 p1 (2 : Int32)) h8 _) rfl rfl (Nat.le_of_ble_eq_true rfl) dX0_worth_18) hA hP hD hS [] rfl (fun H locs hP hS => ?_)
  exact hend _ _ _ _ _ hP hD hS hV.symm rfl dX0_worth_21
theorem dX0_told_0 : decode cX0_told 0 = .ok (.iload_n 2, 1) := by decide +kernel
theorem dX0_told_1 : decode cX0_told 1 = .ok (.tableswitch 75 7 11 #[35, 51, 57, 63, 69], 35) := by decide +kernel
theorem dX0_told_36 : decode cX0_told 36 = .ok (.aload_n 0, 1) := by decide +kernel
theorem dX0_told_37 : decode cX0_told 37 = .ok (.iload_n 1, 1) := by decide +kernel
theorem dX0_told_38 : decode cX0_told 38 = .ok (.iconst 0, 1) := by decide +kernel
theorem dX0_told_39 : decode cX0_told 39 = .ok (.invokevirtual 58, 3) := by decide +kernel
theorem dX0_told_42 : decode cX0_told 42 = .ok (.aload_n 0, 1) := by decide +kernel
theorem dX0_told_43 : decode cX0_told 43 = .ok (.iload_n 1, 1) := by decide +kernel
theorem dX0_told_44 : decode cX0_told 44 = .ok (.iconst 1, 1) := by decide +kernel
theorem dX0_told_45 : decode cX0_told 45 = .ok (.invokevirtual 58, 3) := by decide +kernel
theorem dX0_told_48 : decode cX0_told 48 = .ok (.invokestatic 62, 3) := by decide +kernel
theorem dX0_told_51 : decode cX0_told 51 = .ok (.ireturn, 1) := by decide +kernel
theorem dX0_told_52 : decode cX0_told 52 = .ok (.aload_n 0, 1) := by decide +kernel
theorem dX0_told_53 : decode cX0_told 53 = .ok (.iload_n 1, 1) := by decide +kernel
theorem dX0_told_54 : decode cX0_told 54 = .ok (.invokevirtual 67, 3) := by decide +kernel
theorem dX0_told_57 : decode cX0_told 57 = .ok (.ireturn, 1) := by decide +kernel
theorem dX0_told_58 : decode cX0_told 58 = .ok (.aload_n 0, 1) := by decide +kernel
theorem dX0_told_59 : decode cX0_told 59 = .ok (.iload_n 1, 1) := by decide +kernel
theorem dX0_told_60 : decode cX0_told 60 = .ok (.invokevirtual 71, 3) := by decide +kernel
theorem dX0_told_63 : decode cX0_told 63 = .ok (.ireturn, 1) := by decide +kernel
theorem dX0_told_64 : decode cX0_told 64 = .ok (.aload_n 0, 1) := by decide +kernel
theorem dX0_told_65 : decode cX0_told 65 = .ok (.iload_n 1, 1) := by decide +kernel
theorem dX0_told_66 : decode cX0_told 66 = .ok (.invokevirtual 74, 3) := by decide +kernel
theorem dX0_told_69 : decode cX0_told 69 = .ok (.ireturn, 1) := by decide +kernel
theorem dX0_told_70 : decode cX0_told 70 = .ok (.aload_n 0, 1) := by decide +kernel
theorem dX0_told_71 : decode cX0_told 71 = .ok (.iload_n 1, 1) := by decide +kernel
theorem dX0_told_72 : decode cX0_told 72 = .ok (.invokevirtual 77, 3) := by decide +kernel
theorem dX0_told_75 : decode cX0_told 75 = .ok (.ireturn, 1) := by decide +kernel
theorem dX0_told_76 : decode cX0_told 76 = .ok (.iload_n 2, 1) := by decide +kernel
theorem dX0_told_77 : decode cX0_told 77 = .ok (.iconst 0, 1) := by decide +kernel
theorem dX0_told_78 : decode cX0_told 78 = .ok (.bipush 6, 2) := by decide +kernel
theorem dX0_told_80 : decode cX0_told 80 = .ok (.invokestatic 80, 3) := by decide +kernel
theorem dX0_told_83 : decode cX0_told 83 = .ok (.ifCond .eq 12, 3) := by decide +kernel
theorem dX0_told_86 : decode cX0_told 86 = .ok (.aload_n 0, 1) := by decide +kernel
theorem dX0_told_87 : decode cX0_told 87 = .ok (.iload_n 1, 1) := by decide +kernel
theorem dX0_told_88 : decode cX0_told 88 = .ok (.iload_n 2, 1) := by decide +kernel
theorem dX0_told_89 : decode cX0_told 89 = .ok (.invokevirtual 58, 3) := by decide +kernel
theorem dX0_told_92 : decode cX0_told 92 = .ok (.goto 4, 3) := by decide +kernel
theorem dX0_told_95 : decode cX0_told 95 = .ok (.iconst 0, 1) := by decide +kernel
theorem dX0_told_96 : decode cX0_told 96 = .ok (.ireturn, 1) := by decide +kernel
def rX0_told : Room := { frames := 4, cells := 0, slots := 0, locals := 86 }
def vX0_told (E0 : ES) (p1 : Int32) (p2 : Int32) : Int32 := if (p2 = (7 : Int32)) then (vX1_lives (vX0_trait E0 p1 (0 : Int32)) (vX0_trait E0 p1 (1 : Int32))) else if (p2 = (8 : Int32)) then (vX0_worth E0 p1) else if (p2 = (9 : Int32)) then (vX0_fair E0 p1) else if (p2 = (10 : Int32)) then (vX0_worse E0 p1) else if (p2 = (11 : Int32)) then (vX0_award E0 p1) else if ((vX4_within p2 (0 : Int32) (6 : Int32)) = 0) then (0 : Int32) else (vX0_trait E0 p1 p2)
def kX0_told (E0 : ES) (p1 : Int32) (p2 : Int32) : Prop := ((p2 = (7 : Int32)) → ((kX0_trait E0 p1 (0 : Int32)) ∧ (kX0_trait E0 p1 (1 : Int32)) ∧ True)) ∧ (¬ (p2 = (7 : Int32)) → (((p2 = (8 : Int32)) → ((kX0_worth E0 p1) ∧ True)) ∧ (¬ (p2 = (8 : Int32)) → (((p2 = (9 : Int32)) → ((kX0_fair E0 p1) ∧ True)) ∧ (¬ (p2 = (9 : Int32)) → (((p2 = (10 : Int32)) → ((kX0_worse E0 p1) ∧ True)) ∧ (¬ (p2 = (10 : Int32)) → (((p2 = (11 : Int32)) → ((kX0_award E0 p1) ∧ True)) ∧ (¬ (p2 = (11 : Int32)) → ((((vX4_within p2 (0 : Int32) (6 : Int32)) = 0) → True) ∧ (¬ ((vX4_within p2 (0 : Int32) (6 : Int32)) = 0) → ((kX0_trait E0 p1 p2) ∧ True))))))))))))
set_option maxHeartbeats 4000000 in
set_option maxRecDepth 100000 in
theorem hX0_told (l : Launch) (D : va_G) (K : JK) (G : JG) (a : Nat → Nat) (E0 : ES) (p1 : Int32) (p2 : Int32) (hk : kX0_told E0 p1 p2) (sz : Nat) : Met l yX0_told (.code yX0_told cX0_told 3 (some .int) :: jGW) rX0_told (jPre D (jT K) G [.ref (a 0), .int p1, .int p2] (wE K a E0) sz) (jQi D (jT K) (vX0_told E0 p1 p2) (wE K a E0) (va_A (wE K a E0) sz)) 0 0 (va_A (wE K a E0) sz) := by
  refine jEi (by decide) (Nat.le_of_ble_eq_true rfl) (fun p e s m below meth c A Q ls hat hP hD hS hl hend => ?_)
  obtain ⟨hx, hb, hml, hown, hts, hK, hZ, hA⟩ := hat
  have hl : lv_has ls 3 [(0, .ref (a 0)), (1, .int p1), (2, .int p2)] := hl
  have hV := vX0_told.eq_1 E0 p1 p2
  rw [kX0_told] at hk
  refine lv_iload_n hx hb dX0_told_0 rfl (lv_at hl 2 rfl) ?_
  by_cases c14 : (p2 = (7 : Int32))
  · have hV := hV.trans (if_pos c14)
    have hk := hk.1 c14
    refine lv_tableIn (off := 35) (tgt := 36) hx hb dX0_told_1 (by rw [c14]; decide) (by rw [c14]; decide) (by rw [c14]; rfl) (by decide) ?_
    refine lv_aload_n hx hb dX0_told_36 rfl (lv_at hl 0 rfl) ?_
    refine lv_iload_n hx hb dX0_told_37 rfl (lv_at hl 1 rfl) ?_
    refine lv_iconst (v := (0 : Int32)) hx hb dX0_told_38 (by decide) ?_
    obtain ⟨h25, hk⟩ := hk
    refine jci0 (jrunV (As := [.int p1, .int (0 : Int32)]) (rest := []) hx hb hml hown hts hK hZ hA hP hD hS hl.1 mf_X0_trait kl_X0_58 ⟨rfl, rfl, Nat.le_of_ble_eq_true rfl, Nat.le_of_ble_eq_true rfl⟩ ⟨Nat.zero_le _, Nat.zero_le _⟩ [0, 1, 2, 3, 4] rfl rfl rfl rfl rfl (hX0_trait l D K G a E0 p1 (0 : Int32) h25 _) rfl rfl (Nat.le_of_ble_eq_true rfl) dX0_told_39) hA hP hD hS [0, 1, 2, 3, 4] rfl (fun H locs hP hS => ?_)
    refine lv_aload_n hx hb dX0_told_42 rfl (lv_at hl 0 rfl) ?_
    refine lv_iload_n hx hb dX0_told_43 rfl (lv_at hl 1 rfl) ?_
    refine lv_iconst (v := (1 : Int32)) hx hb dX0_told_44 (by decide) ?_
    obtain ⟨h26, hk⟩ := hk
    refine jci0 (jrunV (As := [.int p1, .int (1 : Int32)]) (rest := [.int (vX0_trait E0 p1 (0 : Int32))]) hx hb hml hown hts hK hZ hA hP hD hS hl.1 mf_X0_trait kl_X0_58 ⟨rfl, rfl, Nat.le_of_ble_eq_true rfl, Nat.le_of_ble_eq_true rfl⟩ ⟨Nat.zero_le _, Nat.zero_le _⟩ [0, 1, 2, 3, 4] rfl rfl rfl rfl rfl (hX0_trait l D K G a E0 p1 (1 : Int32) h26 _) rfl rfl (Nat.le_of_ble_eq_true rfl) dX0_told_45) hA hP hD hS [0, 1, 2, 3, 4] rfl (fun H locs hP hS => ?_)
    refine jci0 (jrunS (As := [.int (vX0_trait E0 p1 (0 : Int32)), .int (vX0_trait E0 p1 (1 : Int32))]) (rest := []) hx hb hml hown hts hK hZ hA hP hD hS hl.1 mf_X1_lives kl_X0_62 ⟨rfl, rfl, Nat.le_of_ble_eq_true rfl, Nat.le_of_ble_eq_true rfl⟩ ⟨Nat.zero_le _, Nat.zero_le _⟩ [] rfl rfl (hX1_lives l D K G (vX0_trait E0 p1 (0 : Int32)) (vX0_trait E0 p1 (1 : Int32)) _) rfl rfl (Nat.le_of_ble_eq_true rfl) dX0_told_48) hA hP hD hS [] rfl (fun H locs hP hS => ?_)
    exact hend _ _ _ _ _ hP hD hS hV.symm rfl dX0_told_51
  · have hV := hV.trans (if_neg c14)
    have hk := hk.2 c14
    by_cases c15 : (p2 = (8 : Int32))
    · have hV := hV.trans (if_pos c15)
      have hk := hk.1 c15
      refine lv_tableIn (off := 51) (tgt := 52) hx hb dX0_told_1 (by rw [c15]; decide) (by rw [c15]; decide) (by rw [c15]; rfl) (by decide) ?_
      refine lv_aload_n hx hb dX0_told_52 rfl (lv_at hl 0 rfl) ?_
      refine lv_iload_n hx hb dX0_told_53 rfl (lv_at hl 1 rfl) ?_
      obtain ⟨h24, hk⟩ := hk
      refine jci0 (jrunV (As := [.int p1]) (rest := []) hx hb hml hown hts hK hZ hA hP hD hS hl.1 mf_X0_worth kl_X0_67 ⟨rfl, rfl, Nat.le_of_ble_eq_true rfl, Nat.le_of_ble_eq_true rfl⟩ ⟨Nat.zero_le _, Nat.zero_le _⟩ [0, 1, 2, 3, 4] rfl rfl rfl rfl rfl (hX0_worth l D K G a E0 p1 h24 _) rfl rfl (Nat.le_of_ble_eq_true rfl) dX0_told_54) hA hP hD hS [0, 1, 2, 3, 4] rfl (fun H locs hP hS => ?_)
      exact hend _ _ _ _ _ hP hD hS hV.symm rfl dX0_told_57
    · have hV := hV.trans (if_neg c15)
      have hk := hk.2 c15
      by_cases c16 : (p2 = (9 : Int32))
      · have hV := hV.trans (if_pos c16)
        have hk := hk.1 c16
        refine lv_tableIn (off := 57) (tgt := 58) hx hb dX0_told_1 (by rw [c16]; decide) (by rw [c16]; decide) (by rw [c16]; rfl) (by decide) ?_
        refine lv_aload_n hx hb dX0_told_58 rfl (lv_at hl 0 rfl) ?_
        refine lv_iload_n hx hb dX0_told_59 rfl (lv_at hl 1 rfl) ?_
        obtain ⟨h23, hk⟩ := hk
        refine jci0 (jrunV (As := [.int p1]) (rest := []) hx hb hml hown hts hK hZ hA hP hD hS hl.1 mf_X0_fair kl_X0_71 ⟨rfl, rfl, Nat.le_of_ble_eq_true rfl, Nat.le_of_ble_eq_true rfl⟩ ⟨Nat.zero_le _, Nat.zero_le _⟩ [0, 1, 2, 3, 4] rfl rfl rfl rfl rfl (hX0_fair l D K G a E0 p1 h23 _) rfl rfl (Nat.le_of_ble_eq_true rfl) dX0_told_60) hA hP hD hS [0, 1, 2, 3, 4] rfl (fun H locs hP hS => ?_)
        exact hend _ _ _ _ _ hP hD hS hV.symm rfl dX0_told_63
      · have hV := hV.trans (if_neg c16)
        have hk := hk.2 c16
        by_cases c17 : (p2 = (10 : Int32))
        · have hV := hV.trans (if_pos c17)
          have hk := hk.1 c17
          refine lv_tableIn (off := 63) (tgt := 64) hx hb dX0_told_1 (by rw [c17]; decide) (by rw [c17]; decide) (by rw [c17]; rfl) (by decide) ?_
          refine lv_aload_n hx hb dX0_told_64 rfl (lv_at hl 0 rfl) ?_
          refine lv_iload_n hx hb dX0_told_65 rfl (lv_at hl 1 rfl) ?_
          obtain ⟨h22, hk⟩ := hk
          refine jci0 (jrunV (As := [.int p1]) (rest := []) hx hb hml hown hts hK hZ hA hP hD hS hl.1 mf_X0_worse kl_X0_74 ⟨rfl, rfl, Nat.le_of_ble_eq_true rfl, Nat.le_of_ble_eq_true rfl⟩ ⟨Nat.zero_le _, Nat.zero_le _⟩ [0, 1, 2, 3, 4] rfl rfl rfl rfl rfl (hX0_worse l D K G a E0 p1 h22 _) rfl rfl (Nat.le_of_ble_eq_true rfl) dX0_told_66) hA hP hD hS [0, 1, 2, 3, 4] rfl (fun H locs hP hS => ?_)
          exact hend _ _ _ _ _ hP hD hS hV.symm rfl dX0_told_69
        · have hV := hV.trans (if_neg c17)
          have hk := hk.2 c17
          by_cases c18 : (p2 = (11 : Int32))
          · have hV := hV.trans (if_pos c18)
            have hk := hk.1 c18
            refine lv_tableIn (off := 69) (tgt := 70) hx hb dX0_told_1 (by rw [c18]; decide) (by rw [c18]; decide) (by rw [c18]; rfl) (by decide) ?_
            refine lv_aload_n hx hb dX0_told_70 rfl (lv_at hl 0 rfl) ?_
            refine lv_iload_n hx hb dX0_told_71 rfl (lv_at hl 1 rfl) ?_
            obtain ⟨h21, hk⟩ := hk
            refine jci0 (jrunV (As := [.int p1]) (rest := []) hx hb hml hown hts hK hZ hA hP hD hS hl.1 mf_X0_award kl_X0_77 ⟨rfl, rfl, Nat.le_of_ble_eq_true rfl, Nat.le_of_ble_eq_true rfl⟩ ⟨Nat.zero_le _, Nat.zero_le _⟩ [0, 1, 2, 3, 4] rfl rfl rfl rfl rfl (hX0_award l D K G a E0 p1 h21 _) rfl rfl (Nat.le_of_ble_eq_true rfl) dX0_told_72) hA hP hD hS [0, 1, 2, 3, 4] rfl (fun H locs hP hS => ?_)
            exact hend _ _ _ _ _ hP hD hS hV.symm rfl dX0_told_75
          · have hV := hV.trans (if_neg c18)
            have hk := hk.2 c18
            refine lv_tableOut (tgt := 76) hx hb dX0_told_1 (by have n0 := jneL (z := 7) c14 (by decide); have n1 := jneL (z := 8) c15 (by decide); have n2 := jneL (z := 9) c16 (by decide); have n3 := jneL (z := 10) c17 (by decide); have n4 := jneL (z := 11) c18 (by decide); omega) (by decide) ?_
            refine lv_iload_n hx hb dX0_told_76 rfl (lv_at hl 2 rfl) ?_
            refine lv_iconst (v := (0 : Int32)) hx hb dX0_told_77 (by decide) ?_
            refine lv_bipush (v := (6 : Int32)) hx hb dX0_told_78 (by decide) ?_
            refine jci0 (jrunSN (As := [.int p2, .int (0 : Int32), .int (6 : Int32)]) (rest := []) hx hb hml hown hts hK hZ hA hP hD hS hl.1 mf_X4_within kl_X0_80 ⟨rfl, rfl, Nat.le_of_ble_eq_true rfl, Nat.le_of_ble_eq_true rfl⟩ ⟨Nat.zero_le _, Nat.zero_le _⟩ [] rfl rfl (hX4_within l D K G p2 (0 : Int32) (6 : Int32) _) rfl rfl (Nat.le_of_ble_eq_true rfl) dX0_told_80) hA hP hD hS [] rfl (fun H locs hP hS => ?_)
            refine lv_if_eq (tgt := 95) hx hb dX0_told_83 (by decide) (fun c19 => ?_) (fun c19 => ?_)
            · have hV := hV.trans (if_pos c19)
              have hk := hk.1 c19
              refine lv_iconst (v := (0 : Int32)) hx hb dX0_told_95 (by decide) ?_
              exact hend _ _ _ _ _ hP hD hS hV.symm rfl dX0_told_96
            · have hV := hV.trans (if_neg c19)
              have hk := hk.2 c19
              refine lv_aload_n hx hb dX0_told_86 rfl (lv_at hl 0 rfl) ?_
              refine lv_iload_n hx hb dX0_told_87 rfl (lv_at hl 1 rfl) ?_
              refine lv_iload_n hx hb dX0_told_88 rfl (lv_at hl 2 rfl) ?_
              obtain ⟨h20, hk⟩ := hk
              refine jci0 (jrunV (As := [.int p1, .int p2]) (rest := []) hx hb hml hown hts hK hZ hA hP hD hS hl.1 mf_X0_trait kl_X0_58 ⟨rfl, rfl, Nat.le_of_ble_eq_true rfl, Nat.le_of_ble_eq_true rfl⟩ ⟨Nat.zero_le _, Nat.zero_le _⟩ [0, 1, 2, 3, 4] rfl rfl rfl rfl rfl (hX0_trait l D K G a E0 p1 p2 h20 _) rfl rfl (Nat.le_of_ble_eq_true rfl) dX0_told_89) hA hP hD hS [0, 1, 2, 3, 4] rfl (fun H locs hP hS => ?_)
              refine lv_goto (tgt := 96) hx hb dX0_told_92 (by decide) ?_
              exact hend _ _ _ _ _ hP hD hS hV.symm rfl dX0_told_96
theorem dX0_sum_0 : decode cX0_sum 0 = .ok (.iconst 0, 1) := by decide +kernel
theorem dX0_sum_1 : decode cX0_sum 1 = .ok (.istore_n 2, 1) := by decide +kernel
theorem dX0_sum_2 : decode cX0_sum 2 = .ok (.iconst 0, 1) := by decide +kernel
theorem dX0_sum_3 : decode cX0_sum 3 = .ok (.istore_n 3, 1) := by decide +kernel
theorem dX0_sum_4 : decode cX0_sum 4 = .ok (.iload_n 3, 1) := by decide +kernel
theorem dX0_sum_5 : decode cX0_sum 5 = .ok (.aload_n 0, 1) := by decide +kernel
theorem dX0_sum_6 : decode cX0_sum 6 = .ok (.getfield 32, 3) := by decide +kernel
theorem dX0_sum_9 : decode cX0_sum 9 = .ok (.if_icmp .ge 18, 3) := by decide +kernel
theorem dX0_sum_12 : decode cX0_sum 12 = .ok (.iload_n 2, 1) := by decide +kernel
theorem dX0_sum_13 : decode cX0_sum 13 = .ok (.aload_n 0, 1) := by decide +kernel
theorem dX0_sum_14 : decode cX0_sum 14 = .ok (.iload_n 3, 1) := by decide +kernel
theorem dX0_sum_15 : decode cX0_sum 15 = .ok (.iload_n 1, 1) := by decide +kernel
theorem dX0_sum_16 : decode cX0_sum 16 = .ok (.invokevirtual 110, 3) := by decide +kernel
theorem dX0_sum_19 : decode cX0_sum 19 = .ok (.iadd, 1) := by decide +kernel
theorem dX0_sum_20 : decode cX0_sum 20 = .ok (.istore_n 2, 1) := by decide +kernel
theorem dX0_sum_21 : decode cX0_sum 21 = .ok (.iinc 3 1, 3) := by decide +kernel
theorem dX0_sum_24 : decode cX0_sum 24 = .ok (.goto (-20), 3) := by decide +kernel
theorem dX0_sum_27 : decode cX0_sum 27 = .ok (.iload_n 2, 1) := by decide +kernel
theorem dX0_sum_28 : decode cX0_sum 28 = .ok (.ireturn, 1) := by decide +kernel
def rX0_sum : Room := { frames := 5, cells := 0, slots := 0, locals := 108 }
def vX0_sum_c4 (E0 : ES) (p1 : Int32) : Nat → Int32 → Int32 → Int32
  | 0, x2, x3 => (0)
  | n + 1, x2, x3 => if ((e_things E0) ≤ x3) then x2 else (vX0_sum_c4 E0 p1 n (x2 + (vX0_told E0 x3 p1)) (x3 + (1 : Int32)))
def kX0_sum_c4 (E0 : ES) (p1 : Int32) : Nat → Int32 → Int32 → Prop
  | 0, _, _ => False
  | n + 1, x2, x3 => (((e_things E0) ≤ x3) → True) ∧ (¬ ((e_things E0) ≤ x3) → ((kX0_told E0 x3 p1) ∧ (kX0_sum_c4 E0 p1 n (x2 + (vX0_told E0 x3 p1)) (x3 + (1 : Int32)))))
def vX0_sum (E0 : ES) (p1 : Int32) : Int32 := (vX0_sum_c4 E0 p1 1024 (0 : Int32) (0 : Int32))
def kX0_sum (E0 : ES) (p1 : Int32) : Prop := (kX0_sum_c4 E0 p1 1024 (0 : Int32) (0 : Int32))
set_option maxHeartbeats 4000000 in
set_option maxRecDepth 100000 in
theorem hX0_sum (l : Launch) (D : va_G) (K : JK) (G : JG) (a : Nat → Nat) (E0 : ES) (p1 : Int32) (hk : kX0_sum E0 p1) (sz : Nat) : Met l yX0_sum (.code yX0_sum cX0_sum 4 (some .int) :: jGW) rX0_sum (jPre D (jT K) G [.ref (a 0), .int p1] (wE K a E0) sz) (jQi D (jT K) (vX0_sum E0 p1) (wE K a E0) (va_A (wE K a E0) sz)) 0 0 (va_A (wE K a E0) sz) := by
  refine jEi (by decide) (Nat.le_of_ble_eq_true rfl) (fun p e s m below meth c A Q ls hat hP hD hS hl hend => ?_)
  obtain ⟨hx, hb, hml, hown, hts, hK, hZ, hA⟩ := hat
  have hl : lv_has ls 4 [(0, .ref (a 0)), (1, .int p1)] := hl
  have hc4 : ∀ (n : Nat) (x2 : Int32) (x3 : Int32) (H : Heap) (locs : List Loc) (ls : Array Slot), (vX0_sum E0 p1) = vX0_sum_c4 E0 p1 n x2 x3 → kX0_sum_c4 E0 p1 n x2 x3 → va_P D vwCl (wE K a E0) H → va_D A (wE K a E0) → va_S A s.heap H locs → lv_has ls 4 [(0, .ref (a 0)), (1, .int p1), (2, .int x2), (3, .int x3)] → W p l e rX0_sum s m ([.ref (a 0), .int p1] : List Value).toArray below meth c H locs 0 0 Q (F0 m 4 ls []) := by
    intro n
    induction n with
    | zero =>
      intro x2 x3 H locs ls hV hk hP hD hS hl
      exact False.elim hk
    | succ n ih =>
      intro x2 x3 H locs ls hV hk hP hD hS hl
      rw [vX0_sum_c4] at hV
      rw [kX0_sum_c4] at hk
      refine lv_iload_n hx hb dX0_sum_4 rfl (lv_at hl 3 rfl) ?_
      refine lv_aload_n hx hb dX0_sum_5 rfl (lv_at hl 0 rfl) ?_
      refine gf_X0_32 (v := .int (e_things E0)) hx hb hts hown hK hZ hP (0) rfl rfl dX0_sum_6 ?_
      refine lv_icmp_ge (tgt := 27) hx hb dX0_sum_9 (by decide) (fun c3 => ?_) (fun c3 => ?_)
      · have hV := hV.trans (if_pos c3)
        have hk := hk.1 c3
        refine lv_iload_n hx hb dX0_sum_27 rfl (lv_at hl 2 rfl) ?_
        exact hend _ _ _ _ _ hP hD hS hV.symm rfl dX0_sum_28
      · have hV := hV.trans (if_neg c3)
        have hk := hk.2 c3
        refine lv_iload_n hx hb dX0_sum_12 rfl (lv_at hl 2 rfl) ?_
        refine lv_aload_n hx hb dX0_sum_13 rfl (lv_at hl 0 rfl) ?_
        refine lv_iload_n hx hb dX0_sum_14 rfl (lv_at hl 3 rfl) ?_
        refine lv_iload_n hx hb dX0_sum_15 rfl (lv_at hl 1 rfl) ?_
        obtain ⟨h4, hk⟩ := hk
        refine jci0 (jrunV (As := [.int x3, .int p1]) (rest := [.int x2]) hx hb hml hown hts hK hZ hA hP hD hS hl.1 mf_X0_told kl_X0_110 ⟨rfl, rfl, Nat.le_of_ble_eq_true rfl, Nat.le_of_ble_eq_true rfl⟩ ⟨Nat.zero_le _, Nat.zero_le _⟩ [0, 1, 2, 3, 4] rfl rfl rfl rfl rfl (hX0_told l D K G a E0 x3 p1 h4 _) rfl rfl (Nat.le_of_ble_eq_true rfl) dX0_sum_16) hA hP hD hS [0, 1, 2, 3, 4] rfl (fun H locs hP hS => ?_)
        refine lv_iadd hx hb dX0_sum_19 ?_
        refine lv_istore_n (lv' := [(2, .int (x2 + (vX0_told E0 x3 p1))), (0, .ref (a 0)), (1, .int p1), (3, .int x3)]) hx hb dX0_sum_20 rfl hl (by decide) rfl (fun ls hl => ?_)
        refine lv_iinc (v := (x3 + (1 : Int32))) (lv' := [(3, .int (x3 + (1 : Int32))), (2, .int (x2 + (vX0_told E0 x3 p1))), (0, .ref (a 0)), (1, .int p1)]) hx hb dX0_sum_21 hl (k := 3) rfl rfl (by decide) rfl (fun ls hl => ?_)
        refine lv_goto (tgt := 4) hx hb dX0_sum_24 (by decide) ?_
        exact ih (x2 + (vX0_told E0 x3 p1)) (x3 + (1 : Int32)) _ _ _ hV hk hP hD hS (lv_sub hl [2, 3, 1, 0] rfl)
  have hV := vX0_sum.eq_1 E0 p1
  rw [kX0_sum] at hk
  refine lv_iconst (v := (0 : Int32)) hx hb dX0_sum_0 (by decide) ?_
  refine lv_istore_n (lv' := [(2, .int (0 : Int32)), (0, .ref (a 0)), (1, .int p1)]) hx hb dX0_sum_1 rfl hl (by decide) rfl (fun ls hl => ?_)
  refine lv_iconst (v := (0 : Int32)) hx hb dX0_sum_2 (by decide) ?_
  refine lv_istore_n (lv' := [(3, .int (0 : Int32)), (2, .int (0 : Int32)), (0, .ref (a 0)), (1, .int p1)]) hx hb dX0_sum_3 rfl hl (by decide) rfl (fun ls hl => ?_)
  exact hc4 1024 (0 : Int32) (0 : Int32) _ _ _ hV hk hP hD hS (lv_sub hl [2, 3, 1, 0] rfl)
theorem dX0_thingsWith_0 : decode cX0_thingsWith 0 = .ok (.iconst 0, 1) := by decide +kernel
theorem dX0_thingsWith_1 : decode cX0_thingsWith 1 = .ok (.istore_n 2, 1) := by decide +kernel
theorem dX0_thingsWith_2 : decode cX0_thingsWith 2 = .ok (.iconst 0, 1) := by decide +kernel
theorem dX0_thingsWith_3 : decode cX0_thingsWith 3 = .ok (.istore_n 3, 1) := by decide +kernel
theorem dX0_thingsWith_4 : decode cX0_thingsWith 4 = .ok (.iload_n 3, 1) := by decide +kernel
theorem dX0_thingsWith_5 : decode cX0_thingsWith 5 = .ok (.aload_n 0, 1) := by decide +kernel
theorem dX0_thingsWith_6 : decode cX0_thingsWith 6 = .ok (.getfield 32, 3) := by decide +kernel
theorem dX0_thingsWith_9 : decode cX0_thingsWith 9 = .ok (.if_icmp .ge 24, 3) := by decide +kernel
theorem dX0_thingsWith_12 : decode cX0_thingsWith 12 = .ok (.aload_n 0, 1) := by decide +kernel
theorem dX0_thingsWith_13 : decode cX0_thingsWith 13 = .ok (.iload_n 3, 1) := by decide +kernel
theorem dX0_thingsWith_14 : decode cX0_thingsWith 14 = .ok (.iload_n 1, 1) := by decide +kernel
theorem dX0_thingsWith_15 : decode cX0_thingsWith 15 = .ok (.invokevirtual 110, 3) := by decide +kernel
theorem dX0_thingsWith_18 : decode cX0_thingsWith 18 = .ok (.ifCond .le 9, 3) := by decide +kernel
theorem dX0_thingsWith_21 : decode cX0_thingsWith 21 = .ok (.iload_n 2, 1) := by decide +kernel
theorem dX0_thingsWith_22 : decode cX0_thingsWith 22 = .ok (.iconst 1, 1) := by decide +kernel
theorem dX0_thingsWith_23 : decode cX0_thingsWith 23 = .ok (.iload_n 3, 1) := by decide +kernel
theorem dX0_thingsWith_24 : decode cX0_thingsWith 24 = .ok (.ishl, 1) := by decide +kernel
theorem dX0_thingsWith_25 : decode cX0_thingsWith 25 = .ok (.ior, 1) := by decide +kernel
theorem dX0_thingsWith_26 : decode cX0_thingsWith 26 = .ok (.istore_n 2, 1) := by decide +kernel
theorem dX0_thingsWith_27 : decode cX0_thingsWith 27 = .ok (.iinc 3 1, 3) := by decide +kernel
theorem dX0_thingsWith_30 : decode cX0_thingsWith 30 = .ok (.goto (-26), 3) := by decide +kernel
theorem dX0_thingsWith_33 : decode cX0_thingsWith 33 = .ok (.iload_n 2, 1) := by decide +kernel
theorem dX0_thingsWith_34 : decode cX0_thingsWith 34 = .ok (.ireturn, 1) := by decide +kernel
def rX0_thingsWith : Room := { frames := 5, cells := 0, slots := 0, locals := 108 }
def vX0_thingsWith_c27 (E0 : ES) (p1 : Int32) (k : Int32 → Int32 → Int32) (x2 : Int32) (x3 : Int32) : Int32 := (k x2 (x3 + (1 : Int32)))
def kX0_thingsWith_c27 (E0 : ES) (p1 : Int32) (q : Int32 → Int32 → Prop) (x2 : Int32) (x3 : Int32) : Prop := (q x2 (x3 + (1 : Int32)))
def vX0_thingsWith_c4 (E0 : ES) (p1 : Int32) : Nat → Int32 → Int32 → Int32
  | 0, x2, x3 => (0)
  | n + 1, x2, x3 => if ((e_things E0) ≤ x3) then x2 else if ((vX0_told E0 x3 p1) ≤ 0) then (vX0_thingsWith_c27 E0 p1 (fun x2 x3 => vX0_thingsWith_c4 E0 p1 n x2 x3) x2 x3) else (vX0_thingsWith_c27 E0 p1 (fun x2 x3 => vX0_thingsWith_c4 E0 p1 n x2 x3) (x2 ||| ((1 : Int32) <<< (x3 &&& 31))) x3)
def kX0_thingsWith_c4 (E0 : ES) (p1 : Int32) : Nat → Int32 → Int32 → Prop
  | 0, _, _ => False
  | n + 1, x2, x3 => (((e_things E0) ≤ x3) → True) ∧ (¬ ((e_things E0) ≤ x3) → ((kX0_told E0 x3 p1) ∧ (((vX0_told E0 x3 p1) ≤ 0) → ((kX0_thingsWith_c27 E0 p1 (fun x2 x3 => kX0_thingsWith_c4 E0 p1 n x2 x3) x2 x3))) ∧ (¬ ((vX0_told E0 x3 p1) ≤ 0) → ((kX0_thingsWith_c27 E0 p1 (fun x2 x3 => kX0_thingsWith_c4 E0 p1 n x2 x3) (x2 ||| ((1 : Int32) <<< (x3 &&& 31))) x3)))))
def vX0_thingsWith (E0 : ES) (p1 : Int32) : Int32 := (vX0_thingsWith_c4 E0 p1 1024 (0 : Int32) (0 : Int32))
def kX0_thingsWith (E0 : ES) (p1 : Int32) : Prop := (kX0_thingsWith_c4 E0 p1 1024 (0 : Int32) (0 : Int32))
set_option maxHeartbeats 4000000 in
set_option maxRecDepth 100000 in
theorem hX0_thingsWith (l : Launch) (D : va_G) (K : JK) (G : JG) (a : Nat → Nat) (E0 : ES) (p1 : Int32) (hk : kX0_thingsWith E0 p1) (sz : Nat) : Met l yX0_thingsWith (.code yX0_thingsWith cX0_thingsWith 4 (some .int) :: jGW) rX0_thingsWith (jPre D (jT K) G [.ref (a 0), .int p1] (wE K a E0) sz) (jQi D (jT K) (vX0_thingsWith E0 p1) (wE K a E0) (va_A (wE K a E0) sz)) 0 0 (va_A (wE K a E0) sz) := by
  refine jEi (by decide) (Nat.le_of_ble_eq_true rfl) (fun p e s m below meth c A Q ls hat hP hD hS hl hend => ?_)
  obtain ⟨hx, hb, hml, hown, hts, hK, hZ, hA⟩ := hat
  have hl : lv_has ls 4 [(0, .ref (a 0)), (1, .int p1)] := hl
  have hc4 : ∀ (n : Nat) (x2 : Int32) (x3 : Int32) (H : Heap) (locs : List Loc) (ls : Array Slot), (vX0_thingsWith E0 p1) = vX0_thingsWith_c4 E0 p1 n x2 x3 → kX0_thingsWith_c4 E0 p1 n x2 x3 → va_P D vwCl (wE K a E0) H → va_D A (wE K a E0) → va_S A s.heap H locs → lv_has ls 4 [(0, .ref (a 0)), (1, .int p1), (2, .int x2), (3, .int x3)] → W p l e rX0_thingsWith s m ([.ref (a 0), .int p1] : List Value).toArray below meth c H locs 0 0 Q (F0 m 4 ls []) := by
    intro n
    induction n with
    | zero =>
      intro x2 x3 H locs ls hV hk hP hD hS hl
      exact False.elim hk
    | succ n ih =>
      have hc27 : ∀ (x2 : Int32) (x3 : Int32) (H : Heap) (locs : List Loc) (ls : Array Slot), (vX0_thingsWith E0 p1) = vX0_thingsWith_c27 E0 p1 (fun x2 x3 => vX0_thingsWith_c4 E0 p1 n x2 x3) x2 x3 → kX0_thingsWith_c27 E0 p1 (fun x2 x3 => kX0_thingsWith_c4 E0 p1 n x2 x3) x2 x3 → va_P D vwCl (wE K a E0) H → va_D A (wE K a E0) → va_S A s.heap H locs → lv_has ls 4 [(0, .ref (a 0)), (1, .int p1), (2, .int x2), (3, .int x3)] → W p l e rX0_thingsWith s m ([.ref (a 0), .int p1] : List Value).toArray below meth c H locs 0 0 Q (F0 m 27 ls []) := by
        intro x2 x3 H locs ls hV hk hP hD hS hl
        rw [vX0_thingsWith_c27] at hV
        rw [kX0_thingsWith_c27] at hk
        refine lv_iinc (v := (x3 + (1 : Int32))) (lv' := [(3, .int (x3 + (1 : Int32))), (0, .ref (a 0)), (1, .int p1), (2, .int x2)]) hx hb dX0_thingsWith_27 hl (k := 3) rfl rfl (by decide) rfl (fun ls hl => ?_)
        refine lv_goto (tgt := 4) hx hb dX0_thingsWith_30 (by decide) ?_
        exact ih x2 (x3 + (1 : Int32)) _ _ _ hV hk hP hD hS (lv_sub hl [1, 2, 3, 0] rfl)
      intro x2 x3 H locs ls hV hk hP hD hS hl
      rw [vX0_thingsWith_c4] at hV
      rw [kX0_thingsWith_c4] at hk
      refine lv_iload_n hx hb dX0_thingsWith_4 rfl (lv_at hl 3 rfl) ?_
      refine lv_aload_n hx hb dX0_thingsWith_5 rfl (lv_at hl 0 rfl) ?_
      refine gf_X0_32 (v := .int (e_things E0)) hx hb hts hown hK hZ hP (0) rfl rfl dX0_thingsWith_6 ?_
      refine lv_icmp_ge (tgt := 33) hx hb dX0_thingsWith_9 (by decide) (fun c4 => ?_) (fun c4 => ?_)
      · have hV := hV.trans (if_pos c4)
        have hk := hk.1 c4
        refine lv_iload_n hx hb dX0_thingsWith_33 rfl (lv_at hl 2 rfl) ?_
        exact hend _ _ _ _ _ hP hD hS hV.symm rfl dX0_thingsWith_34
      · have hV := hV.trans (if_neg c4)
        have hk := hk.2 c4
        refine lv_aload_n hx hb dX0_thingsWith_12 rfl (lv_at hl 0 rfl) ?_
        refine lv_iload_n hx hb dX0_thingsWith_13 rfl (lv_at hl 3 rfl) ?_
        refine lv_iload_n hx hb dX0_thingsWith_14 rfl (lv_at hl 1 rfl) ?_
        obtain ⟨h5, hk⟩ := hk
        refine jci0 (jrunV (As := [.int x3, .int p1]) (rest := []) hx hb hml hown hts hK hZ hA hP hD hS hl.1 mf_X0_told kl_X0_110 ⟨rfl, rfl, Nat.le_of_ble_eq_true rfl, Nat.le_of_ble_eq_true rfl⟩ ⟨Nat.zero_le _, Nat.zero_le _⟩ [0, 1, 2, 3, 4] rfl rfl rfl rfl rfl (hX0_told l D K G a E0 x3 p1 h5 _) rfl rfl (Nat.le_of_ble_eq_true rfl) dX0_thingsWith_15) hA hP hD hS [0, 1, 2, 3, 4] rfl (fun H locs hP hS => ?_)
        refine lv_if_le (tgt := 27) hx hb dX0_thingsWith_18 (by decide) (fun c6 => ?_) (fun c6 => ?_)
        · have hV := hV.trans (if_pos c6)
          have hk := hk.1 c6
          exact hc27 x2 x3 _ _ _ hV hk hP hD hS (lv_sub hl [0, 1, 2, 3] rfl)
        · have hV := hV.trans (if_neg c6)
          have hk := hk.2 c6
          refine lv_iload_n hx hb dX0_thingsWith_21 rfl (lv_at hl 2 rfl) ?_
          refine lv_iconst (v := (1 : Int32)) hx hb dX0_thingsWith_22 (by decide) ?_
          refine lv_iload_n hx hb dX0_thingsWith_23 rfl (lv_at hl 3 rfl) ?_
          refine lv_ishl hx hb dX0_thingsWith_24 ?_
          refine lv_ior hx hb dX0_thingsWith_25 ?_
          refine lv_istore_n (lv' := [(2, .int (x2 ||| ((1 : Int32) <<< (x3 &&& 31)))), (0, .ref (a 0)), (1, .int p1), (3, .int x3)]) hx hb dX0_thingsWith_26 rfl hl (by decide) rfl (fun ls hl => ?_)
          exact hc27 (x2 ||| ((1 : Int32) <<< (x3 &&& 31))) x3 _ _ _ hV hk hP hD hS (lv_sub hl [1, 2, 0, 3] rfl)
  have hV := vX0_thingsWith.eq_1 E0 p1
  rw [kX0_thingsWith] at hk
  refine lv_iconst (v := (0 : Int32)) hx hb dX0_thingsWith_0 (by decide) ?_
  refine lv_istore_n (lv' := [(2, .int (0 : Int32)), (0, .ref (a 0)), (1, .int p1)]) hx hb dX0_thingsWith_1 rfl hl (by decide) rfl (fun ls hl => ?_)
  refine lv_iconst (v := (0 : Int32)) hx hb dX0_thingsWith_2 (by decide) ?_
  refine lv_istore_n (lv' := [(3, .int (0 : Int32)), (2, .int (0 : Int32)), (0, .ref (a 0)), (1, .int p1)]) hx hb dX0_thingsWith_3 rfl hl (by decide) rfl (fun ls hl => ?_)
  exact hc4 1024 (0 : Int32) (0 : Int32) _ _ _ hV hk hP hD hS (lv_sub hl [2, 3, 1, 0] rfl)
end
