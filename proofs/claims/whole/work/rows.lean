section
-- ===== PART A: goes FIRST, ahead of the names: the tables' words, and 'selects' of the private methods out of them =====
/-- a private method of a class that the tables say can be made, by its rows of tables_1 -/
def lw_okq (q : MethodName × Nat) : Prop := (q.1.cls ≠ "java/lang/invoke/MethodHandle" ∧ q.1.cls ≠ "java/lang/invoke/VarHandle") ∧ Cond.instantiable q.1.cls q.2 ∈ tables_1 ∧ Cond.privateMethod q.1 ∈ tables_1 ∧ Cond.instanceMethod q.1 ∈ tables_1
theorem lw_p0 : lw_okq (⟨"SleepWard", "tell", "(I)I"⟩, 11) := ⟨⟨by decide +kernel, by decide +kernel⟩, List.mem_of_getElem? (i := 17) (by decide +kernel), List.mem_of_getElem? (i := 231) (by decide +kernel), List.mem_of_getElem? (i := 232) (by decide +kernel)⟩
theorem lw_p1 : lw_okq (⟨"SleepWard", "isWalker", "(I)Z"⟩, 11) := ⟨⟨by decide +kernel, by decide +kernel⟩, List.mem_of_getElem? (i := 17) (by decide +kernel), List.mem_of_getElem? (i := 323) (by decide +kernel), List.mem_of_getElem? (i := 324) (by decide +kernel)⟩
theorem lw_p2 : lw_okq (⟨"SleepWard", "isTooLate", "(I)Z"⟩, 11) := ⟨⟨by decide +kernel, by decide +kernel⟩, List.mem_of_getElem? (i := 17) (by decide +kernel), List.mem_of_getElem? (i := 388) (by decide +kernel), List.mem_of_getElem? (i := 389) (by decide +kernel)⟩
theorem lw_p3 : lw_okq (⟨"SleepWard", "isSafe", "(JI)Z"⟩, 11) := ⟨⟨by decide +kernel, by decide +kernel⟩, List.mem_of_getElem? (i := 17) (by decide +kernel), List.mem_of_getElem? (i := 459) (by decide +kernel), List.mem_of_getElem? (i := 460) (by decide +kernel)⟩
theorem lw_p4 : lw_okq (⟨"SleepWard", "findBanks", "()I"⟩, 11) := ⟨⟨by decide +kernel, by decide +kernel⟩, List.mem_of_getElem? (i := 17) (by decide +kernel), List.mem_of_getElem? (i := 467) (by decide +kernel), List.mem_of_getElem? (i := 468) (by decide +kernel)⟩
theorem lw_p5 : lw_okq (⟨"SleepWard", "leastBars", "(II)I"⟩, 11) := ⟨⟨by decide +kernel, by decide +kernel⟩, List.mem_of_getElem? (i := 17) (by decide +kernel), List.mem_of_getElem? (i := 473) (by decide +kernel), List.mem_of_getElem? (i := 474) (by decide +kernel)⟩
theorem lw_p6 : lw_okq (⟨"SleepWard", "doorsOf", "(II)J"⟩, 11) := ⟨⟨by decide +kernel, by decide +kernel⟩, List.mem_of_getElem? (i := 17) (by decide +kernel), List.mem_of_getElem? (i := 478) (by decide +kernel), List.mem_of_getElem? (i := 479) (by decide +kernel)⟩
theorem lw_p7 : lw_okq (⟨"SleepWard", "placesWithLamps", "(II)J"⟩, 11) := ⟨⟨by decide +kernel, by decide +kernel⟩, List.mem_of_getElem? (i := 17) (by decide +kernel), List.mem_of_getElem? (i := 486) (by decide +kernel), List.mem_of_getElem? (i := 487) (by decide +kernel)⟩
theorem lw_p8 : lw_okq (⟨"SleepWard", "spreadOdds", "(II)V"⟩, 11) := ⟨⟨by decide +kernel, by decide +kernel⟩, List.mem_of_getElem? (i := 17) (by decide +kernel), List.mem_of_getElem? (i := 507) (by decide +kernel), List.mem_of_getElem? (i := 508) (by decide +kernel)⟩
theorem lw_p9 : lw_okq (⟨"SleepWard", "spreadFrom", "(I)V"⟩, 11) := ⟨⟨by decide +kernel, by decide +kernel⟩, List.mem_of_getElem? (i := 17) (by decide +kernel), List.mem_of_getElem? (i := 514) (by decide +kernel), List.mem_of_getElem? (i := 515) (by decide +kernel)⟩
theorem lw_p10 : lw_okq (⟨"SleepWard$Text", "nextToken", "()V"⟩, 7) := ⟨⟨by decide +kernel, by decide +kernel⟩, List.mem_of_getElem? (i := 122) (by decide +kernel), List.mem_of_getElem? (i := 544) (by decide +kernel), List.mem_of_getElem? (i := 545) (by decide +kernel)⟩
theorem lw_p11 : lw_okq (⟨"SleepWard$Text", "readItem", "(LSleepWard$Ward;)V"⟩, 7) := ⟨⟨by decide +kernel, by decide +kernel⟩, List.mem_of_getElem? (i := 122) (by decide +kernel), List.mem_of_getElem? (i := 555) (by decide +kernel), List.mem_of_getElem? (i := 556) (by decide +kernel)⟩
theorem lw_p12 : lw_okq (⟨"SleepWard$Text", "takesWord", "(Ljava/lang/String;)Z"⟩, 7) := ⟨⟨by decide +kernel, by decide +kernel⟩, List.mem_of_getElem? (i := 122) (by decide +kernel), List.mem_of_getElem? (i := 560) (by decide +kernel), List.mem_of_getElem? (i := 561) (by decide +kernel)⟩
theorem lw_p13 : lw_okq (⟨"SleepWard$Text", "isWord", "(Ljava/lang/String;)Z"⟩, 7) := ⟨⟨by decide +kernel, by decide +kernel⟩, List.mem_of_getElem? (i := 122) (by decide +kernel), List.mem_of_getElem? (i := 564) (by decide +kernel), List.mem_of_getElem? (i := 565) (by decide +kernel)⟩
theorem lw_p14 : lw_okq (⟨"SleepWard$Text", "readDoor", "(LSleepWard$Ward;Z)V"⟩, 7) := ⟨⟨by decide +kernel, by decide +kernel⟩, List.mem_of_getElem? (i := 122) (by decide +kernel), List.mem_of_getElem? (i := 616) (by decide +kernel), List.mem_of_getElem? (i := 617) (by decide +kernel)⟩
theorem lw_p15 : lw_okq (⟨"SleepWard$Text", "takeNumber", "(I)I"⟩, 7) := ⟨⟨by decide +kernel, by decide +kernel⟩, List.mem_of_getElem? (i := 122) (by decide +kernel), List.mem_of_getElem? (i := 620) (by decide +kernel), List.mem_of_getElem? (i := 621) (by decide +kernel)⟩
def lw_privs_1 : List (MethodName × Nat) := [(⟨"SleepWard", "tell", "(I)I"⟩, 11), (⟨"SleepWard", "isWalker", "(I)Z"⟩, 11), (⟨"SleepWard", "isTooLate", "(I)Z"⟩, 11), (⟨"SleepWard", "isSafe", "(JI)Z"⟩, 11), (⟨"SleepWard", "findBanks", "()I"⟩, 11), (⟨"SleepWard", "leastBars", "(II)I"⟩, 11), (⟨"SleepWard", "doorsOf", "(II)J"⟩, 11), (⟨"SleepWard", "placesWithLamps", "(II)J"⟩, 11), (⟨"SleepWard", "spreadOdds", "(II)V"⟩, 11), (⟨"SleepWard", "spreadFrom", "(I)V"⟩, 11), (⟨"SleepWard$Text", "nextToken", "()V"⟩, 7), (⟨"SleepWard$Text", "readItem", "(LSleepWard$Ward;)V"⟩, 7), (⟨"SleepWard$Text", "takesWord", "(Ljava/lang/String;)Z"⟩, 7), (⟨"SleepWard$Text", "isWord", "(Ljava/lang/String;)Z"⟩, 7), (⟨"SleepWard$Text", "readDoor", "(LSleepWard$Ward;Z)V"⟩, 7), (⟨"SleepWard$Text", "takeNumber", "(I)I"⟩, 7)]
theorem lw_r1 : ∀ q ∈ lw_privs_1, lw_okq q := List.forall_mem_cons.mpr ⟨lw_p0, List.forall_mem_cons.mpr ⟨lw_p1, List.forall_mem_cons.mpr ⟨lw_p2, List.forall_mem_cons.mpr ⟨lw_p3, List.forall_mem_cons.mpr ⟨lw_p4, List.forall_mem_cons.mpr ⟨lw_p5, List.forall_mem_cons.mpr ⟨lw_p6, List.forall_mem_cons.mpr ⟨lw_p7, List.forall_mem_cons.mpr ⟨lw_p8, List.forall_mem_cons.mpr ⟨lw_p9, List.forall_mem_cons.mpr ⟨lw_p10, List.forall_mem_cons.mpr ⟨lw_p11, List.forall_mem_cons.mpr ⟨lw_p12, List.forall_mem_cons.mpr ⟨lw_p13, List.forall_mem_cons.mpr ⟨lw_p14, List.forall_mem_cons.mpr ⟨lw_p15, fun _ h => absurd h List.not_mem_nil⟩⟩⟩⟩⟩⟩⟩⟩⟩⟩⟩⟩⟩⟩⟩⟩
theorem lw_p16 : lw_okq (⟨"SleepWard$Text", "readHeight", "(LSleepWard$Ward;)V"⟩, 7) := ⟨⟨by decide +kernel, by decide +kernel⟩, List.mem_of_getElem? (i := 122) (by decide +kernel), List.mem_of_getElem? (i := 628) (by decide +kernel), List.mem_of_getElem? (i := 629) (by decide +kernel)⟩
theorem lw_p17 : lw_okq (⟨"SleepWard$Text", "readRiver", "(LSleepWard$Ward;Z)V"⟩, 7) := ⟨⟨by decide +kernel, by decide +kernel⟩, List.mem_of_getElem? (i := 122) (by decide +kernel), List.mem_of_getElem? (i := 635) (by decide +kernel), List.mem_of_getElem? (i := 636) (by decide +kernel)⟩
theorem lw_p18 : lw_okq (⟨"SleepWard$Text", "readRounds", "(LSleepWard$Ward;)V"⟩, 7) := ⟨⟨by decide +kernel, by decide +kernel⟩, List.mem_of_getElem? (i := 122) (by decide +kernel), List.mem_of_getElem? (i := 643) (by decide +kernel), List.mem_of_getElem? (i := 644) (by decide +kernel)⟩
theorem lw_p19 : lw_okq (⟨"SleepWard$Text", "readWalker", "(LSleepWard$Ward;)V"⟩, 7) := ⟨⟨by decide +kernel, by decide +kernel⟩, List.mem_of_getElem? (i := 122) (by decide +kernel), List.mem_of_getElem? (i := 649) (by decide +kernel), List.mem_of_getElem? (i := 650) (by decide +kernel)⟩
theorem lw_p20 : lw_okq (⟨"SleepWard$Text", "kindOfWord", "()I"⟩, 7) := ⟨⟨by decide +kernel, by decide +kernel⟩, List.mem_of_getElem? (i := 122) (by decide +kernel), List.mem_of_getElem? (i := 653) (by decide +kernel), List.mem_of_getElem? (i := 654) (by decide +kernel)⟩
theorem lw_p21 : lw_okq (⟨"SleepWardModel", "doorOf", "(II)I"⟩, 19) := ⟨⟨by decide +kernel, by decide +kernel⟩, List.mem_of_getElem? (i := 741) (by decide +kernel), List.mem_of_getElem? (i := 809) (by decide +kernel), List.mem_of_getElem? (i := 810) (by decide +kernel)⟩
theorem lw_p22 : lw_okq (⟨"SleepWardModel", "no", "(I)I"⟩, 19) := ⟨⟨by decide +kernel, by decide +kernel⟩, List.mem_of_getElem? (i := 741) (by decide +kernel), List.mem_of_getElem? (i := 828) (by decide +kernel), List.mem_of_getElem? (i := 829) (by decide +kernel)⟩
theorem lw_p23 : lw_okq (⟨"SleepWardModel", "puts", "(II)I"⟩, 19) := ⟨⟨by decide +kernel, by decide +kernel⟩, List.mem_of_getElem? (i := 741) (by decide +kernel), List.mem_of_getElem? (i := 833) (by decide +kernel), List.mem_of_getElem? (i := 834) (by decide +kernel)⟩
theorem lw_p24 : lw_okq (⟨"SleepWardModel", "walkersAt", "(I)I"⟩, 19) := ⟨⟨by decide +kernel, by decide +kernel⟩, List.mem_of_getElem? (i := 741) (by decide +kernel), List.mem_of_getElem? (i := 853) (by decide +kernel), List.mem_of_getElem? (i := 854) (by decide +kernel)⟩
theorem lw_p25 : lw_okq (⟨"SleepWardModel", "has", "(II)I"⟩, 19) := ⟨⟨by decide +kernel, by decide +kernel⟩, List.mem_of_getElem? (i := 741) (by decide +kernel), List.mem_of_getElem? (i := 857) (by decide +kernel), List.mem_of_getElem? (i := 858) (by decide +kernel)⟩
theorem lw_p26 : lw_okq (⟨"SleepWardModel", "adds", "(III)V"⟩, 19) := ⟨⟨by decide +kernel, by decide +kernel⟩, List.mem_of_getElem? (i := 741) (by decide +kernel), List.mem_of_getElem? (i := 883) (by decide +kernel), List.mem_of_getElem? (i := 884) (by decide +kernel)⟩
theorem lw_p27 : lw_okq (⟨"SleepWardModel", "gets", "(III)I"⟩, 19) := ⟨⟨by decide +kernel, by decide +kernel⟩, List.mem_of_getElem? (i := 741) (by decide +kernel), List.mem_of_getElem? (i := 887) (by decide +kernel), List.mem_of_getElem? (i := 888) (by decide +kernel)⟩
theorem lw_p28 : lw_okq (⟨"SleepWardModel", "isWalker", "(I)Z"⟩, 19) := ⟨⟨by decide +kernel, by decide +kernel⟩, List.mem_of_getElem? (i := 741) (by decide +kernel), List.mem_of_getElem? (i := 895) (by decide +kernel), List.mem_of_getElem? (i := 896) (by decide +kernel)⟩
theorem lw_p29 : lw_okq (⟨"SleepWardModel", "waysFrom", "(I)I"⟩, 19) := ⟨⟨by decide +kernel, by decide +kernel⟩, List.mem_of_getElem? (i := 741) (by decide +kernel), List.mem_of_getElem? (i := 899) (by decide +kernel), List.mem_of_getElem? (i := 900) (by decide +kernel)⟩
theorem lw_p30 : lw_okq (⟨"SleepWardModel", "may", "(II)Z"⟩, 19) := ⟨⟨by decide +kernel, by decide +kernel⟩, List.mem_of_getElem? (i := 741) (by decide +kernel), List.mem_of_getElem? (i := 903) (by decide +kernel), List.mem_of_getElem? (i := 904) (by decide +kernel)⟩
theorem lw_p31 : lw_okq (⟨"SleepWardModel", "stepOf", "(I)I"⟩, 19) := ⟨⟨by decide +kernel, by decide +kernel⟩, List.mem_of_getElem? (i := 741) (by decide +kernel), List.mem_of_getElem? (i := 930) (by decide +kernel), List.mem_of_getElem? (i := 931) (by decide +kernel)⟩
def lw_privs_2 : List (MethodName × Nat) := [(⟨"SleepWard$Text", "readHeight", "(LSleepWard$Ward;)V"⟩, 7), (⟨"SleepWard$Text", "readRiver", "(LSleepWard$Ward;Z)V"⟩, 7), (⟨"SleepWard$Text", "readRounds", "(LSleepWard$Ward;)V"⟩, 7), (⟨"SleepWard$Text", "readWalker", "(LSleepWard$Ward;)V"⟩, 7), (⟨"SleepWard$Text", "kindOfWord", "()I"⟩, 7), (⟨"SleepWardModel", "doorOf", "(II)I"⟩, 19), (⟨"SleepWardModel", "no", "(I)I"⟩, 19), (⟨"SleepWardModel", "puts", "(II)I"⟩, 19), (⟨"SleepWardModel", "walkersAt", "(I)I"⟩, 19), (⟨"SleepWardModel", "has", "(II)I"⟩, 19), (⟨"SleepWardModel", "adds", "(III)V"⟩, 19), (⟨"SleepWardModel", "gets", "(III)I"⟩, 19), (⟨"SleepWardModel", "isWalker", "(I)Z"⟩, 19), (⟨"SleepWardModel", "waysFrom", "(I)I"⟩, 19), (⟨"SleepWardModel", "may", "(II)Z"⟩, 19), (⟨"SleepWardModel", "stepOf", "(I)I"⟩, 19)]
theorem lw_r2 : ∀ q ∈ lw_privs_2, lw_okq q := List.forall_mem_cons.mpr ⟨lw_p16, List.forall_mem_cons.mpr ⟨lw_p17, List.forall_mem_cons.mpr ⟨lw_p18, List.forall_mem_cons.mpr ⟨lw_p19, List.forall_mem_cons.mpr ⟨lw_p20, List.forall_mem_cons.mpr ⟨lw_p21, List.forall_mem_cons.mpr ⟨lw_p22, List.forall_mem_cons.mpr ⟨lw_p23, List.forall_mem_cons.mpr ⟨lw_p24, List.forall_mem_cons.mpr ⟨lw_p25, List.forall_mem_cons.mpr ⟨lw_p26, List.forall_mem_cons.mpr ⟨lw_p27, List.forall_mem_cons.mpr ⟨lw_p28, List.forall_mem_cons.mpr ⟨lw_p29, List.forall_mem_cons.mpr ⟨lw_p30, List.forall_mem_cons.mpr ⟨lw_p31, fun _ h => absurd h List.not_mem_nil⟩⟩⟩⟩⟩⟩⟩⟩⟩⟩⟩⟩⟩⟩⟩⟩
theorem lw_p32 : lw_okq (⟨"SleepWardModel", "turned", "(IIZ)I"⟩, 19) := ⟨⟨by decide +kernel, by decide +kernel⟩, List.mem_of_getElem? (i := 741) (by decide +kernel), List.mem_of_getElem? (i := 934) (by decide +kernel), List.mem_of_getElem? (i := 935) (by decide +kernel)⟩
theorem lw_p33 : lw_okq (⟨"SleepWardModel", "slopeStep", "(II)I"⟩, 19) := ⟨⟨by decide +kernel, by decide +kernel⟩, List.mem_of_getElem? (i := 741) (by decide +kernel), List.mem_of_getElem? (i := 938) (by decide +kernel), List.mem_of_getElem? (i := 939) (by decide +kernel)⟩
theorem lw_p34 : lw_okq (⟨"SleepWardModel", "lampStep", "(II)I"⟩, 19) := ⟨⟨by decide +kernel, by decide +kernel⟩, List.mem_of_getElem? (i := 741) (by decide +kernel), List.mem_of_getElem? (i := 942) (by decide +kernel), List.mem_of_getElem? (i := 943) (by decide +kernel)⟩
theorem lw_p35 : lw_okq (⟨"SleepWardModel", "wanderStep", "(I)I"⟩, 19) := ⟨⟨by decide +kernel, by decide +kernel⟩, List.mem_of_getElem? (i := 741) (by decide +kernel), List.mem_of_getElem? (i := 946) (by decide +kernel), List.mem_of_getElem? (i := 947) (by decide +kernel)⟩
theorem lw_p36 : lw_okq (⟨"SleepWardModel", "draw", "()I"⟩, 19) := ⟨⟨by decide +kernel, by decide +kernel⟩, List.mem_of_getElem? (i := 741) (by decide +kernel), List.mem_of_getElem? (i := 950) (by decide +kernel), List.mem_of_getElem? (i := 951) (by decide +kernel)⟩
theorem lw_p37 : lw_okq (⟨"SleepWardModel", "isLate", "(I)Z"⟩, 19) := ⟨⟨by decide +kernel, by decide +kernel⟩, List.mem_of_getElem? (i := 741) (by decide +kernel), List.mem_of_getElem? (i := 962) (by decide +kernel), List.mem_of_getElem? (i := 963) (by decide +kernel)⟩
theorem lw_p38 : lw_okq (⟨"SleepWardModel", "inRiver", "()I"⟩, 19) := ⟨⟨by decide +kernel, by decide +kernel⟩, List.mem_of_getElem? (i := 741) (by decide +kernel), List.mem_of_getElem? (i := 966) (by decide +kernel), List.mem_of_getElem? (i := 967) (by decide +kernel)⟩
theorem lw_p39 : lw_okq (⟨"SleepWardModel", "isIn", "(I)Z"⟩, 19) := ⟨⟨by decide +kernel, by decide +kernel⟩, List.mem_of_getElem? (i := 741) (by decide +kernel), List.mem_of_getElem? (i := 970) (by decide +kernel), List.mem_of_getElem? (i := 971) (by decide +kernel)⟩
theorem lw_p40 : lw_okq (⟨"SleepWardModel", "go", "(I)V"⟩, 19) := ⟨⟨by decide +kernel, by decide +kernel⟩, List.mem_of_getElem? (i := 741) (by decide +kernel), List.mem_of_getElem? (i := 974) (by decide +kernel), List.mem_of_getElem? (i := 975) (by decide +kernel)⟩
theorem lw_p41 : lw_okq (⟨"SleepWardModel", "minute", "()V"⟩, 19) := ⟨⟨by decide +kernel, by decide +kernel⟩, List.mem_of_getElem? (i := 741) (by decide +kernel), List.mem_of_getElem? (i := 978) (by decide +kernel), List.mem_of_getElem? (i := 979) (by decide +kernel)⟩
theorem lw_p42 : lw_okq (⟨"SleepWardModel", "goes", "(I)Z"⟩, 19) := ⟨⟨by decide +kernel, by decide +kernel⟩, List.mem_of_getElem? (i := 741) (by decide +kernel), List.mem_of_getElem? (i := 982) (by decide +kernel), List.mem_of_getElem? (i := 983) (by decide +kernel)⟩
theorem lw_p43 : lw_okq (⟨"SleepWardModel", "homeMany", "()I"⟩, 19) := ⟨⟨by decide +kernel, by decide +kernel⟩, List.mem_of_getElem? (i := 741) (by decide +kernel), List.mem_of_getElem? (i := 990) (by decide +kernel), List.mem_of_getElem? (i := 991) (by decide +kernel)⟩
theorem lw_p44 : lw_okq (⟨"SleepWardModel", "awake", "()I"⟩, 19) := ⟨⟨by decide +kernel, by decide +kernel⟩, List.mem_of_getElem? (i := 741) (by decide +kernel), List.mem_of_getElem? (i := 1002) (by decide +kernel), List.mem_of_getElem? (i := 1003) (by decide +kernel)⟩
theorem lw_p45 : lw_okq (⟨"SleepWardModel", "soonest", "(III)I"⟩, 19) := ⟨⟨by decide +kernel, by decide +kernel⟩, List.mem_of_getElem? (i := 741) (by decide +kernel), List.mem_of_getElem? (i := 1017) (by decide +kernel), List.mem_of_getElem? (i := 1018) (by decide +kernel)⟩
theorem lw_p46 : lw_okq (⟨"SleepWardModel", "is", "(III)Z"⟩, 19) := ⟨⟨by decide +kernel, by decide +kernel⟩, List.mem_of_getElem? (i := 741) (by decide +kernel), List.mem_of_getElem? (i := 1021) (by decide +kernel), List.mem_of_getElem? (i := 1022) (by decide +kernel)⟩
theorem lw_p47 : lw_okq (⟨"SleepWardModel", "isSafe", "(I)Z"⟩, 19) := ⟨⟨by decide +kernel, by decide +kernel⟩, List.mem_of_getElem? (i := 741) (by decide +kernel), List.mem_of_getElem? (i := 1037) (by decide +kernel), List.mem_of_getElem? (i := 1038) (by decide +kernel)⟩
def lw_privs_3 : List (MethodName × Nat) := [(⟨"SleepWardModel", "turned", "(IIZ)I"⟩, 19), (⟨"SleepWardModel", "slopeStep", "(II)I"⟩, 19), (⟨"SleepWardModel", "lampStep", "(II)I"⟩, 19), (⟨"SleepWardModel", "wanderStep", "(I)I"⟩, 19), (⟨"SleepWardModel", "draw", "()I"⟩, 19), (⟨"SleepWardModel", "isLate", "(I)Z"⟩, 19), (⟨"SleepWardModel", "inRiver", "()I"⟩, 19), (⟨"SleepWardModel", "isIn", "(I)Z"⟩, 19), (⟨"SleepWardModel", "go", "(I)V"⟩, 19), (⟨"SleepWardModel", "minute", "()V"⟩, 19), (⟨"SleepWardModel", "goes", "(I)Z"⟩, 19), (⟨"SleepWardModel", "homeMany", "()I"⟩, 19), (⟨"SleepWardModel", "awake", "()I"⟩, 19), (⟨"SleepWardModel", "soonest", "(III)I"⟩, 19), (⟨"SleepWardModel", "is", "(III)Z"⟩, 19), (⟨"SleepWardModel", "isSafe", "(I)Z"⟩, 19)]
theorem lw_r3 : ∀ q ∈ lw_privs_3, lw_okq q := List.forall_mem_cons.mpr ⟨lw_p32, List.forall_mem_cons.mpr ⟨lw_p33, List.forall_mem_cons.mpr ⟨lw_p34, List.forall_mem_cons.mpr ⟨lw_p35, List.forall_mem_cons.mpr ⟨lw_p36, List.forall_mem_cons.mpr ⟨lw_p37, List.forall_mem_cons.mpr ⟨lw_p38, List.forall_mem_cons.mpr ⟨lw_p39, List.forall_mem_cons.mpr ⟨lw_p40, List.forall_mem_cons.mpr ⟨lw_p41, List.forall_mem_cons.mpr ⟨lw_p42, List.forall_mem_cons.mpr ⟨lw_p43, List.forall_mem_cons.mpr ⟨lw_p44, List.forall_mem_cons.mpr ⟨lw_p45, List.forall_mem_cons.mpr ⟨lw_p46, List.forall_mem_cons.mpr ⟨lw_p47, fun _ h => absurd h List.not_mem_nil⟩⟩⟩⟩⟩⟩⟩⟩⟩⟩⟩⟩⟩⟩⟩⟩
theorem lw_p48 : lw_okq (⟨"SleepWardModel", "banks", "()I"⟩, 19) := ⟨⟨by decide +kernel, by decide +kernel⟩, List.mem_of_getElem? (i := 741) (by decide +kernel), List.mem_of_getElem? (i := 1045) (by decide +kernel), List.mem_of_getElem? (i := 1046) (by decide +kernel)⟩
theorem lw_p49 : lw_okq (⟨"SleepWardModel", "isSafeBy", "(III)Z"⟩, 19) := ⟨⟨by decide +kernel, by decide +kernel⟩, List.mem_of_getElem? (i := 741) (by decide +kernel), List.mem_of_getElem? (i := 1049) (by decide +kernel), List.mem_of_getElem? (i := 1050) (by decide +kernel)⟩
theorem lw_p50 : lw_okq (⟨"SleepWardModel", "spreads", "(II)V"⟩, 19) := ⟨⟨by decide +kernel, by decide +kernel⟩, List.mem_of_getElem? (i := 741) (by decide +kernel), List.mem_of_getElem? (i := 1069) (by decide +kernel), List.mem_of_getElem? (i := 1070) (by decide +kernel)⟩
theorem lw_p51 : lw_okq (⟨"SleepWardModel", "item", "()Z"⟩, 19) := ⟨⟨by decide +kernel, by decide +kernel⟩, List.mem_of_getElem? (i := 741) (by decide +kernel), List.mem_of_getElem? (i := 1090) (by decide +kernel), List.mem_of_getElem? (i := 1091) (by decide +kernel)⟩
theorem lw_p52 : lw_okq (⟨"SleepWardModel", "isWord", "(Ljava/lang/String;)Z"⟩, 19) := ⟨⟨by decide +kernel, by decide +kernel⟩, List.mem_of_getElem? (i := 741) (by decide +kernel), List.mem_of_getElem? (i := 1103) (by decide +kernel), List.mem_of_getElem? (i := 1104) (by decide +kernel)⟩
theorem lw_p53 : lw_okq (⟨"SleepWardModel", "blanks", "()V"⟩, 19) := ⟨⟨by decide +kernel, by decide +kernel⟩, List.mem_of_getElem? (i := 741) (by decide +kernel), List.mem_of_getElem? (i := 1107) (by decide +kernel), List.mem_of_getElem? (i := 1108) (by decide +kernel)⟩
theorem lw_p54 : lw_okq (⟨"SleepWardModel", "byteAt", "(I)I"⟩, 19) := ⟨⟨by decide +kernel, by decide +kernel⟩, List.mem_of_getElem? (i := 741) (by decide +kernel), List.mem_of_getElem? (i := 1111) (by decide +kernel), List.mem_of_getElem? (i := 1112) (by decide +kernel)⟩
theorem lw_p55 : lw_okq (⟨"SleepWardModel", "wordEnd", "()I"⟩, 19) := ⟨⟨by decide +kernel, by decide +kernel⟩, List.mem_of_getElem? (i := 741) (by decide +kernel), List.mem_of_getElem? (i := 1115) (by decide +kernel), List.mem_of_getElem? (i := 1116) (by decide +kernel)⟩
theorem lw_p56 : lw_okq (⟨"SleepWardModel", "fails", "()Z"⟩, 19) := ⟨⟨by decide +kernel, by decide +kernel⟩, List.mem_of_getElem? (i := 741) (by decide +kernel), List.mem_of_getElem? (i := 1124) (by decide +kernel), List.mem_of_getElem? (i := 1125) (by decide +kernel)⟩
theorem lw_p57 : lw_okq (⟨"SleepWardModel", "may", "(Ljava/lang/String;)Z"⟩, 19) := ⟨⟨by decide +kernel, by decide +kernel⟩, List.mem_of_getElem? (i := 741) (by decide +kernel), List.mem_of_getElem? (i := 1128) (by decide +kernel), List.mem_of_getElem? (i := 1129) (by decide +kernel)⟩
theorem lw_p58 : lw_okq (⟨"SleepWardModel", "walkerTold", "(I)Z"⟩, 19) := ⟨⟨by decide +kernel, by decide +kernel⟩, List.mem_of_getElem? (i := 741) (by decide +kernel), List.mem_of_getElem? (i := 1132) (by decide +kernel), List.mem_of_getElem? (i := 1133) (by decide +kernel)⟩
theorem lw_p59 : lw_okq (⟨"SleepWardModel", "must", "(Ljava/lang/String;)Z"⟩, 19) := ⟨⟨by decide +kernel, by decide +kernel⟩, List.mem_of_getElem? (i := 741) (by decide +kernel), List.mem_of_getElem? (i := 1137) (by decide +kernel), List.mem_of_getElem? (i := 1138) (by decide +kernel)⟩
theorem lw_p60 : lw_okq (⟨"SleepWardModel", "number", "(II)Z"⟩, 19) := ⟨⟨by decide +kernel, by decide +kernel⟩, List.mem_of_getElem? (i := 741) (by decide +kernel), List.mem_of_getElem? (i := 1141) (by decide +kernel), List.mem_of_getElem? (i := 1142) (by decide +kernel)⟩
theorem lw_p61 : lw_okq (⟨"SleepWardModel", "doorTold", "(I)Z"⟩, 19) := ⟨⟨by decide +kernel, by decide +kernel⟩, List.mem_of_getElem? (i := 741) (by decide +kernel), List.mem_of_getElem? (i := 1156) (by decide +kernel), List.mem_of_getElem? (i := 1157) (by decide +kernel)⟩
theorem lw_p62 : lw_okq (⟨"SleepWardModel", "heightTold", "()Z"⟩, 19) := ⟨⟨by decide +kernel, by decide +kernel⟩, List.mem_of_getElem? (i := 741) (by decide +kernel), List.mem_of_getElem? (i := 1162) (by decide +kernel), List.mem_of_getElem? (i := 1163) (by decide +kernel)⟩
theorem lw_p63 : lw_okq (⟨"SleepWardModel", "markTold", "(II)Z"⟩, 19) := ⟨⟨by decide +kernel, by decide +kernel⟩, List.mem_of_getElem? (i := 741) (by decide +kernel), List.mem_of_getElem? (i := 1167) (by decide +kernel), List.mem_of_getElem? (i := 1168) (by decide +kernel)⟩
def lw_privs_4 : List (MethodName × Nat) := [(⟨"SleepWardModel", "banks", "()I"⟩, 19), (⟨"SleepWardModel", "isSafeBy", "(III)Z"⟩, 19), (⟨"SleepWardModel", "spreads", "(II)V"⟩, 19), (⟨"SleepWardModel", "item", "()Z"⟩, 19), (⟨"SleepWardModel", "isWord", "(Ljava/lang/String;)Z"⟩, 19), (⟨"SleepWardModel", "blanks", "()V"⟩, 19), (⟨"SleepWardModel", "byteAt", "(I)I"⟩, 19), (⟨"SleepWardModel", "wordEnd", "()I"⟩, 19), (⟨"SleepWardModel", "fails", "()Z"⟩, 19), (⟨"SleepWardModel", "may", "(Ljava/lang/String;)Z"⟩, 19), (⟨"SleepWardModel", "walkerTold", "(I)Z"⟩, 19), (⟨"SleepWardModel", "must", "(Ljava/lang/String;)Z"⟩, 19), (⟨"SleepWardModel", "number", "(II)Z"⟩, 19), (⟨"SleepWardModel", "doorTold", "(I)Z"⟩, 19), (⟨"SleepWardModel", "heightTold", "()Z"⟩, 19), (⟨"SleepWardModel", "markTold", "(II)Z"⟩, 19)]
theorem lw_r4 : ∀ q ∈ lw_privs_4, lw_okq q := List.forall_mem_cons.mpr ⟨lw_p48, List.forall_mem_cons.mpr ⟨lw_p49, List.forall_mem_cons.mpr ⟨lw_p50, List.forall_mem_cons.mpr ⟨lw_p51, List.forall_mem_cons.mpr ⟨lw_p52, List.forall_mem_cons.mpr ⟨lw_p53, List.forall_mem_cons.mpr ⟨lw_p54, List.forall_mem_cons.mpr ⟨lw_p55, List.forall_mem_cons.mpr ⟨lw_p56, List.forall_mem_cons.mpr ⟨lw_p57, List.forall_mem_cons.mpr ⟨lw_p58, List.forall_mem_cons.mpr ⟨lw_p59, List.forall_mem_cons.mpr ⟨lw_p60, List.forall_mem_cons.mpr ⟨lw_p61, List.forall_mem_cons.mpr ⟨lw_p62, List.forall_mem_cons.mpr ⟨lw_p63, fun _ h => absurd h List.not_mem_nil⟩⟩⟩⟩⟩⟩⟩⟩⟩⟩⟩⟩⟩⟩⟩⟩
theorem lw_p64 : lw_okq (⟨"SleepWardModel", "roundsTold", "()Z"⟩, 19) := ⟨⟨by decide +kernel, by decide +kernel⟩, List.mem_of_getElem? (i := 741) (by decide +kernel), List.mem_of_getElem? (i := 1175) (by decide +kernel), List.mem_of_getElem? (i := 1176) (by decide +kernel)⟩
theorem lw_p65 : lw_okq (⟨"SleepWardModel", "isNumber", "()Z"⟩, 19) := ⟨⟨by decide +kernel, by decide +kernel⟩, List.mem_of_getElem? (i := 741) (by decide +kernel), List.mem_of_getElem? (i := 1180) (by decide +kernel), List.mem_of_getElem? (i := 1181) (by decide +kernel)⟩
theorem lw_p66 : lw_okq (⟨"SleepWardModel", "writes", "(IIJ)V"⟩, 19) := ⟨⟨by decide +kernel, by decide +kernel⟩, List.mem_of_getElem? (i := 741) (by decide +kernel), List.mem_of_getElem? (i := 1195) (by decide +kernel), List.mem_of_getElem? (i := 1196) (by decide +kernel)⟩
theorem lw_p67 : lw_okq (⟨"SleepWardModel", "sumOf", "(II)I"⟩, 19) := ⟨⟨by decide +kernel, by decide +kernel⟩, List.mem_of_getElem? (i := 741) (by decide +kernel), List.mem_of_getElem? (i := 1232) (by decide +kernel), List.mem_of_getElem? (i := 1233) (by decide +kernel)⟩
def lw_privs_5 : List (MethodName × Nat) := [(⟨"SleepWardModel", "roundsTold", "()Z"⟩, 19), (⟨"SleepWardModel", "isNumber", "()Z"⟩, 19), (⟨"SleepWardModel", "writes", "(IIJ)V"⟩, 19), (⟨"SleepWardModel", "sumOf", "(II)I"⟩, 19)]
theorem lw_r5 : ∀ q ∈ lw_privs_5, lw_okq q := List.forall_mem_cons.mpr ⟨lw_p64, List.forall_mem_cons.mpr ⟨lw_p65, List.forall_mem_cons.mpr ⟨lw_p66, List.forall_mem_cons.mpr ⟨lw_p67, fun _ h => absurd h List.not_mem_nil⟩⟩⟩⟩
def lw_privs : List (MethodName × Nat) := lw_privs_1 ++ (lw_privs_2 ++ (lw_privs_3 ++ (lw_privs_4 ++ (lw_privs_5))))
def lw_tbl : List Cond := k2_sels lw_privs ++ tables_1
theorem lw_privs_ok : ∀ q ∈ lw_privs, lw_okq q := by
  show ∀ q ∈ lw_privs_1 ++ (lw_privs_2 ++ (lw_privs_3 ++ (lw_privs_4 ++ (lw_privs_5)))), lw_okq q
  exact List.forall_mem_append.mpr ⟨lw_r1, List.forall_mem_append.mpr ⟨lw_r2, List.forall_mem_append.mpr ⟨lw_r3, List.forall_mem_append.mpr ⟨lw_r4, lw_r5⟩⟩⟩⟩
def RX0 : String := "SleepWard$Sheet"
def TX0 : u_T := fun k => match k with
  | 0 => ("SleepWard$Sheet", "bits", "I", false)
  | 1 => ("SleepWard$Sheet", "length", "I", false)
  | _ => ("SleepWard$Sheet", "numbers", "[J", true)
def tyX0 : Nat → FieldType := fun k => match k with
  | 0 => .int
  | 1 => .int
  | _ => .array .long
abbrev wsX00 : List Cond := u_ws RX0 TX0 3
theorem nmX0 : ∀ a, a < 3 → ∀ b, b < 3 → a ≠ b → (TX0 a).2.1 ≠ (TX0 b).2.1 := by decide +kernel
theorem tyX0_ok : ∀ k, k < 3 → parseFieldDescriptor (TX0 k).2.2.1 = some (tyX0 k) := by decide +kernel
abbrev cX0_init : ByteArray := prog_2_method_1_code
def yX0_init : MethodName := ⟨RX0, "<init>", "()V"⟩
abbrev cX0_isMissing : ByteArray := prog_2_method_2_code
def yX0_isMissing : MethodName := ⟨RX0, "isMissing", "()Z"⟩
abbrev cX0_clear : ByteArray := prog_2_method_3_code
def yX0_clear : MethodName := ⟨RX0, "clear", "(II)V"⟩
abbrev cX0_putNumber : ByteArray := prog_2_method_4_code
def yX0_putNumber : MethodName := ⟨RX0, "putNumber", "(IJ)V"⟩
abbrev cX0_hasRun : ByteArray := prog_2_method_5_code
def yX0_hasRun : MethodName := ⟨RX0, "hasRun", "(II)Z"⟩
def RX1 : String := "SleepWard$Text"
def TX1 : u_T := fun k => match k with
  | 0 => ("SleepWard$Text", "bytes", "[B", true)
  | 1 => ("SleepWard$Text", "length", "I", false)
  | 2 => ("SleepWard$Text", "fault", "I", false)
  | 3 => ("SleepWard$Text", "token", "I", false)
  | 4 => ("SleepWard$Text", "start", "I", false)
  | 5 => ("SleepWard$Text", "end", "I", false)
  | _ => ("SleepWard$Text", "number", "I", false)
def tyX1 : Nat → FieldType := fun k => match k with
  | 0 => .array .byte
  | 1 => .int
  | 2 => .int
  | 3 => .int
  | 4 => .int
  | 5 => .int
  | _ => .int
abbrev wsX10 : List Cond := u_ws RX1 TX1 7
theorem nmX1 : ∀ a, a < 7 → ∀ b, b < 7 → a ≠ b → (TX1 a).2.1 ≠ (TX1 b).2.1 := by decide +kernel
theorem tyX1_ok : ∀ k, k < 7 → parseFieldDescriptor (TX1 k).2.2.1 = some (tyX1 k) := by decide +kernel
abbrev cX1_init : ByteArray := prog_3_method_1_code
def yX1_init : MethodName := ⟨RX1, "<init>", "()V"⟩
abbrev cX1_addByte : ByteArray := prog_3_method_2_code
def yX1_addByte : MethodName := ⟨RX1, "addByte", "(I)V"⟩
abbrev cX1_readItems : ByteArray := prog_3_method_3_code
def yX1_readItems : MethodName := ⟨RX1, "readItems", "(LSleepWard$Ward;)I"⟩
abbrev cX1_readItem : ByteArray := prog_3_method_4_code
def yX1_readItem : MethodName := ⟨RX1, "readItem", "(LSleepWard$Ward;)V"⟩
abbrev cX1_readDoor : ByteArray := prog_3_method_5_code
def yX1_readDoor : MethodName := ⟨RX1, "readDoor", "(LSleepWard$Ward;Z)V"⟩
abbrev cX1_readHeight : ByteArray := prog_3_method_6_code
def yX1_readHeight : MethodName := ⟨RX1, "readHeight", "(LSleepWard$Ward;)V"⟩
abbrev cX1_readRiver : ByteArray := prog_3_method_7_code
def yX1_readRiver : MethodName := ⟨RX1, "readRiver", "(LSleepWard$Ward;Z)V"⟩
abbrev cX1_readRounds : ByteArray := prog_3_method_8_code
def yX1_readRounds : MethodName := ⟨RX1, "readRounds", "(LSleepWard$Ward;)V"⟩
abbrev cX1_readWalker : ByteArray := prog_3_method_9_code
def yX1_readWalker : MethodName := ⟨RX1, "readWalker", "(LSleepWard$Ward;)V"⟩
abbrev cX1_kindOfWord : ByteArray := prog_3_method_10_code
def yX1_kindOfWord : MethodName := ⟨RX1, "kindOfWord", "()I"⟩
abbrev cX1_nameOf : ByteArray := prog_3_method_11_code
def yX1_nameOf : MethodName := ⟨RX1, "nameOf", "(I)Ljava/lang/String;"⟩
abbrev cX1_takesWord : ByteArray := prog_3_method_12_code
def yX1_takesWord : MethodName := ⟨RX1, "takesWord", "(Ljava/lang/String;)Z"⟩
abbrev cX1_takeNumber : ByteArray := prog_3_method_13_code
def yX1_takeNumber : MethodName := ⟨RX1, "takeNumber", "(I)I"⟩
abbrev cX1_isWord : ByteArray := prog_3_method_14_code
def yX1_isWord : MethodName := ⟨RX1, "isWord", "(Ljava/lang/String;)Z"⟩
abbrev cX1_nextToken : ByteArray := prog_3_method_15_code
def yX1_nextToken : MethodName := ⟨RX1, "nextToken", "()V"⟩
abbrev cX1_isLetter : ByteArray := prog_3_method_16_code
def yX1_isLetter : MethodName := ⟨RX1, "isLetter", "(B)Z"⟩
abbrev cX1_isDigit : ByteArray := prog_3_method_17_code
def yX1_isDigit : MethodName := ⟨RX1, "isDigit", "(B)Z"⟩
def RX2 : String := "SleepWard$Walker"
def TX2 : u_T := fun k => match k with
  | 0 => ("SleepWard$Walker", "kind", "I", false)
  | 1 => ("SleepWard$Walker", "home", "I", false)
  | 2 => ("SleepWard$Walker", "place", "I", false)
  | 3 => ("SleepWard$Walker", "way", "I", false)
  | _ => ("SleepWard$Walker", "awake", "Z", false)
def tyX2 : Nat → FieldType := fun k => match k with
  | 0 => .int
  | 1 => .int
  | 2 => .int
  | 3 => .int
  | _ => .boolean
abbrev wsX20 : List Cond := u_ws RX2 TX2 5
theorem nmX2 : ∀ a, a < 5 → ∀ b, b < 5 → a ≠ b → (TX2 a).2.1 ≠ (TX2 b).2.1 := by decide +kernel
theorem tyX2_ok : ∀ k, k < 5 → parseFieldDescriptor (TX2 k).2.2.1 = some (tyX2 k) := by decide +kernel
abbrev cX2_init : ByteArray := prog_4_method_1_code
def yX2_init : MethodName := ⟨RX2, "<init>", "()V"⟩
abbrev cX2_takeFrom : ByteArray := prog_4_method_2_code
def yX2_takeFrom : MethodName := ⟨RX2, "takeFrom", "(LSleepWard$Walker;)V"⟩
def RX3 : String := "SleepWard$Ward"
def TX3 : u_T := fun k => match k with
  | 0 => ("SleepWard$Ward", "shut", "J", false)
  | 1 => ("SleepWard$Ward", "heights", "[I", true)
  | 2 => ("SleepWard$Ward", "lamps", "I", false)
  | 3 => ("SleepWard$Ward", "river", "I", false)
  | 4 => ("SleepWard$Ward", "moon", "I", false)
  | 5 => ("SleepWard$Ward", "minute", "I", false)
  | 6 => ("SleepWard$Ward", "z", "I", false)
  | 7 => ("SleepWard$Ward", "watcher", "I", false)
  | 8 => ("SleepWard$Ward", "rounds", "[I", true)
  | 9 => ("SleepWard$Ward", "roundCount", "I", false)
  | 10 => ("SleepWard$Ward", "lastRound", "I", false)
  | 11 => ("SleepWard$Ward", "walkers", "[LSleepWard$Walker;", true)
  | _ => ("SleepWard$Ward", "walkerCount", "I", false)
def tyX3 : Nat → FieldType := fun k => match k with
  | 0 => .long
  | 1 => .array .int
  | 2 => .int
  | 3 => .int
  | 4 => .int
  | 5 => .int
  | 6 => .int
  | 7 => .int
  | 8 => .array .int
  | 9 => .int
  | 10 => .int
  | 11 => .array (.object "SleepWard$Walker")
  | _ => .int
abbrev wsX30 : List Cond := u_ws RX3 TX3 13
theorem nmX3 : ∀ a, a < 13 → ∀ b, b < 13 → a ≠ b → (TX3 a).2.1 ≠ (TX3 b).2.1 := by decide +kernel
theorem tyX3_ok : ∀ k, k < 13 → parseFieldDescriptor (TX3 k).2.2.1 = some (tyX3 k) := by decide +kernel
abbrev cX3_init : ByteArray := prog_5_method_1_code
def yX3_init : MethodName := ⟨RX3, "<init>", "()V"⟩
abbrev cX3_takeFrom : ByteArray := prog_5_method_2_code
def yX3_takeFrom : MethodName := ⟨RX3, "takeFrom", "(LSleepWard$Ward;)V"⟩
abbrev cX3_squareBeside : ByteArray := prog_5_method_3_code
def yX3_squareBeside : MethodName := ⟨RX3, "squareBeside", "(II)I"⟩
abbrev cX3_doorBetween : ByteArray := prog_5_method_4_code
def yX3_doorBetween : MethodName := ⟨RX3, "doorBetween", "(II)I"⟩
abbrev cX3_isShut : ByteArray := prog_5_method_5_code
def yX3_isShut : MethodName := ⟨RX3, "isShut", "(I)Z"⟩
abbrev cX3_putDoor : ByteArray := prog_5_method_6_code
def yX3_putDoor : MethodName := ⟨RX3, "putDoor", "(IZ)Z"⟩
abbrev cX3_hasLamp : ByteArray := prog_5_method_7_code
def yX3_hasLamp : MethodName := ⟨RX3, "hasLamp", "(I)Z"⟩
abbrev cX3_putLamp : ByteArray := prog_5_method_8_code
def yX3_putLamp : MethodName := ⟨RX3, "putLamp", "(IZ)Z"⟩
abbrev cX3_isRiver : ByteArray := prog_5_method_9_code
def yX3_isRiver : MethodName := ⟨RX3, "isRiver", "(I)Z"⟩
abbrev cX3_putRiver : ByteArray := prog_5_method_10_code
def yX3_putRiver : MethodName := ⟨RX3, "putRiver", "(IZ)Z"⟩
abbrev cX3_addRound : ByteArray := prog_5_method_11_code
def yX3_addRound : MethodName := ⟨RX3, "addRound", "(I)V"⟩
abbrev cX3_emptyRounds : ByteArray := prog_5_method_12_code
def yX3_emptyRounds : MethodName := ⟨RX3, "emptyRounds", "()V"⟩
abbrev cX3_addWalker : ByteArray := prog_5_method_13_code
def yX3_addWalker : MethodName := ⟨RX3, "addWalker", "(III)V"⟩
abbrev cX3_walkersAt : ByteArray := prog_5_method_14_code
def yX3_walkersAt : MethodName := ⟨RX3, "walkersAt", "(J)I"⟩
abbrev cX3_awakeCount : ByteArray := prog_5_method_15_code
def yX3_awakeCount : MethodName := ⟨RX3, "awakeCount", "()I"⟩
abbrev cX3_riverCount : ByteArray := prog_5_method_16_code
def yX3_riverCount : MethodName := ⟨RX3, "riverCount", "()I"⟩
abbrev cX3_homeCount : ByteArray := prog_5_method_17_code
def yX3_homeCount : MethodName := ⟨RX3, "homeCount", "()I"⟩
abbrev cX3_waysFrom : ByteArray := prog_5_method_18_code
def yX3_waysFrom : MethodName := ⟨RX3, "waysFrom", "(I)I"⟩
abbrev cX3_stepOf : ByteArray := prog_5_method_19_code
def yX3_stepOf : MethodName := ⟨RX3, "stepOf", "(LSleepWard$Walker;)I"⟩
abbrev cX3_plainStep : ByteArray := prog_5_method_20_code
def yX3_plainStep : MethodName := ⟨RX3, "plainStep", "(II)I"⟩
abbrev cX3_slopeStep : ByteArray := prog_5_method_21_code
def yX3_slopeStep : MethodName := ⟨RX3, "slopeStep", "(LSleepWard$Walker;I)I"⟩
abbrev cX3_lampStep : ByteArray := prog_5_method_22_code
def yX3_lampStep : MethodName := ⟨RX3, "lampStep", "(LSleepWard$Walker;I)I"⟩
abbrev cX3_drawnStep : ByteArray := prog_5_method_23_code
def yX3_drawnStep : MethodName := ⟨RX3, "drawnStep", "(I)I"⟩
abbrev cX3_goMinutes : ByteArray := prog_5_method_24_code
def yX3_goMinutes : MethodName := ⟨RX3, "goMinutes", "(I)I"⟩
abbrev cX3_goMinute : ByteArray := prog_5_method_25_code
def yX3_goMinute : MethodName := ⟨RX3, "goMinute", "()I"⟩
def RX4 : String := "SleepWard"
def TX4 : u_T := fun k => match k with
  | 0 => ("SleepWard", "here", "LSleepWard$Ward;", true)
  | 1 => ("SleepWard", "ahead", "LSleepWard$Ward;", true)
  | 2 => ("SleepWard", "kept", "LSleepWard$Ward;", true)
  | 3 => ("SleepWard", "isKept", "Z", false)
  | 4 => ("SleepWard", "text", "LSleepWard$Text;", true)
  | 5 => ("SleepWard", "sheets", "[LSleepWard$Sheet;", true)
  | 6 => ("SleepWard", "banks", "[I", true)
  | 7 => ("SleepWard", "parts", "[J", true)
  | 8 => ("SleepWard", "nextParts", "[J", true)
  | 9 => ("SleepWard", "found", "[I", true)
  | _ => ("SleepWard", "foundInAll", "I", false)
def tyX4 : Nat → FieldType := fun k => match k with
  | 0 => .object "SleepWard$Ward"
  | 1 => .object "SleepWard$Ward"
  | 2 => .object "SleepWard$Ward"
  | 3 => .boolean
  | 4 => .object "SleepWard$Text"
  | 5 => .array (.object "SleepWard$Sheet")
  | 6 => .array .int
  | 7 => .array .long
  | 8 => .array .long
  | 9 => .array .int
  | _ => .int
abbrev wsX40 : List Cond := u_ws RX4 TX4 11
theorem nmX4 : ∀ a, a < 11 → ∀ b, b < 11 → a ≠ b → (TX4 a).2.1 ≠ (TX4 b).2.1 := by decide +kernel
theorem tyX4_ok : ∀ k, k < 11 → parseFieldDescriptor (TX4 k).2.2.1 = some (tyX4 k) := by decide +kernel
abbrev cX4_init : ByteArray := prog_1_method_1_code
def yX4_init : MethodName := ⟨RX4, "<init>", "()V"⟩
abbrev cX4_door : ByteArray := prog_1_method_2_code
def yX4_door : MethodName := ⟨RX4, "door", "(IIZ)I"⟩
abbrev cX4_isOpen : ByteArray := prog_1_method_3_code
def yX4_isOpen : MethodName := ⟨RX4, "isOpen", "(II)I"⟩
abbrev cX4_height : ByteArray := prog_1_method_4_code
def yX4_height : MethodName := ⟨RX4, "height", "(II)I"⟩
abbrev cX4_mark : ByteArray := prog_1_method_5_code
def yX4_mark : MethodName := ⟨RX4, "mark", "(IIZ)I"⟩
abbrev cX4_squareOf : ByteArray := prog_1_method_6_code
def yX4_squareOf : MethodName := ⟨RX4, "squareOf", "(II)I"⟩
abbrev cX4_moon : ByteArray := prog_1_method_7_code
def yX4_moon : MethodName := ⟨RX4, "moon", "(I)I"⟩
abbrev cX4_round : ByteArray := prog_1_method_8_code
def yX4_round : MethodName := ⟨RX4, "round", "(I)I"⟩
abbrev cX4_rest : ByteArray := prog_1_method_9_code
def yX4_rest : MethodName := ⟨RX4, "rest", "()I"⟩
abbrev cX4_walker : ByteArray := prog_1_method_10_code
def yX4_walker : MethodName := ⟨RX4, "walker", "(III)I"⟩
abbrev cX4_of : ByteArray := prog_1_method_11_code
def yX4_of : MethodName := ⟨RX4, "of", "(II)I"⟩
abbrev cX4_set : ByteArray := prog_1_method_12_code
def yX4_set : MethodName := ⟨RX4, "set", "(III)I"⟩
abbrev cX4_wake : ByteArray := prog_1_method_13_code
def yX4_wake : MethodName := ⟨RX4, "wake", "(IZ)I"⟩
abbrev cX4_turn : ByteArray := prog_1_method_14_code
def yX4_turn : MethodName := ⟨RX4, "turn", "(II)I"⟩
abbrev cX4_as : ByteArray := prog_1_method_15_code
def yX4_as : MethodName := ⟨RX4, "as", "(II)I"⟩
abbrev cX4_step : ByteArray := prog_1_method_16_code
def yX4_step : MethodName := ⟨RX4, "step", "(I)I"⟩
abbrev cX4_minutes : ByteArray := prog_1_method_17_code
def yX4_minutes : MethodName := ⟨RX4, "minutes", "(I)I"⟩
abbrev cX4_bed : ByteArray := prog_1_method_18_code
def yX4_bed : MethodName := ⟨RX4, "bed", "()I"⟩
abbrev cX4_seed : ByteArray := prog_1_method_19_code
def yX4_seed : MethodName := ⟨RX4, "seed", "(I)I"⟩
abbrev cX4_now : ByteArray := prog_1_method_20_code
def yX4_now : MethodName := ⟨RX4, "now", "(I)I"⟩
abbrev cX4_on : ByteArray := prog_1_method_21_code
def yX4_on : MethodName := ⟨RX4, "on", "(II)I"⟩
abbrev cX4_river : ByteArray := prog_1_method_22_code
def yX4_river : MethodName := ⟨RX4, "river", "(I)I"⟩
abbrev cX4_meet : ByteArray := prog_1_method_23_code
def yX4_meet : MethodName := ⟨RX4, "meet", "(II)I"⟩
abbrev cX4_home : ByteArray := prog_1_method_24_code
def yX4_home : MethodName := ⟨RX4, "home", "(I)I"⟩
abbrev cX4_safe : ByteArray := prog_1_method_25_code
def yX4_safe : MethodName := ⟨RX4, "safe", "(I)I"⟩
abbrev cX4_barred : ByteArray := prog_1_method_26_code
def yX4_barred : MethodName := ⟨RX4, "barred", "(II)I"⟩
abbrev cX4_lamp : ByteArray := prog_1_method_27_code
def yX4_lamp : MethodName := ⟨RX4, "lamp", "(I)I"⟩
abbrev cX4_watch : ByteArray := prog_1_method_28_code
def yX4_watch : MethodName := ⟨RX4, "watch", "(I)I"⟩
abbrev cX4_loop : ByteArray := prog_1_method_29_code
def yX4_loop : MethodName := ⟨RX4, "loop", "(I)I"⟩
abbrev cX4_odds : ByteArray := prog_1_method_30_code
def yX4_odds : MethodName := ⟨RX4, "odds", "(III)J"⟩
abbrev cX4_likeliest : ByteArray := prog_1_method_31_code
def yX4_likeliest : MethodName := ⟨RX4, "likeliest", "(II)I"⟩
abbrev cX4_feed : ByteArray := prog_1_method_32_code
def yX4_feed : MethodName := ⟨RX4, "feed", "(II)I"⟩
abbrev cX4_wipe : ByteArray := prog_1_method_33_code
def yX4_wipe : MethodName := ⟨RX4, "wipe", "()I"⟩
abbrev cX4_ward : ByteArray := prog_1_method_34_code
def yX4_ward : MethodName := ⟨RX4, "ward", "()I"⟩
abbrev cX4_sheet : ByteArray := prog_1_method_35_code
def yX4_sheet : MethodName := ⟨RX4, "sheet", "(III)I"⟩
abbrev cX4_write : ByteArray := prog_1_method_36_code
def yX4_write : MethodName := ⟨RX4, "write", "(IIJ)J"⟩
abbrev cX4_copy : ByteArray := prog_1_method_37_code
def yX4_copy : MethodName := ⟨RX4, "copy", "(IIIII)I"⟩
abbrev cX4_lays : ByteArray := prog_1_method_38_code
def yX4_lays : MethodName := ⟨RX4, "lays", "(I)I"⟩
abbrev cX4_track : ByteArray := prog_1_method_39_code
def yX4_track : MethodName := ⟨RX4, "track", "(II)I"⟩
abbrev cX4_whose : ByteArray := prog_1_method_40_code
def yX4_whose : MethodName := ⟨RX4, "whose", "(I)I"⟩
abbrev cX4_image : ByteArray := prog_1_method_41_code
def yX4_image : MethodName := ⟨RX4, "image", "()I"⟩
abbrev cX4_undo : ByteArray := prog_1_method_42_code
def yX4_undo : MethodName := ⟨RX4, "undo", "()I"⟩
abbrev cX4_tear : ByteArray := prog_1_method_43_code
def yX4_tear : MethodName := ⟨RX4, "tear", "()I"⟩
abbrev cX4_count : ByteArray := prog_1_method_44_code
def yX4_count : MethodName := ⟨RX4, "count", "(I)I"⟩
abbrev cX4_status : ByteArray := prog_1_method_45_code
def yX4_status : MethodName := ⟨RX4, "status", "(I)I"⟩
abbrev cX4_tell : ByteArray := prog_1_method_46_code
def yX4_tell : MethodName := ⟨RX4, "tell", "(I)I"⟩
abbrev cX4_isWithin : ByteArray := prog_1_method_47_code
def yX4_isWithin : MethodName := ⟨RX4, "isWithin", "(III)Z"⟩
abbrev cX4_isSquare : ByteArray := prog_1_method_48_code
def yX4_isSquare : MethodName := ⟨RX4, "isSquare", "(I)Z"⟩
abbrev cX4_isWay : ByteArray := prog_1_method_49_code
def yX4_isWay : MethodName := ⟨RX4, "isWay", "(I)Z"⟩
abbrev cX4_isKind : ByteArray := prog_1_method_50_code
def yX4_isKind : MethodName := ⟨RX4, "isKind", "(I)Z"⟩
abbrev cX4_isSheet : ByteArray := prog_1_method_51_code
def yX4_isSheet : MethodName := ⟨RX4, "isSheet", "(I)Z"⟩
abbrev cX4_isWalker : ByteArray := prog_1_method_52_code
def yX4_isWalker : MethodName := ⟨RX4, "isWalker", "(I)Z"⟩
abbrev cX4_isTooLate : ByteArray := prog_1_method_53_code
def yX4_isTooLate : MethodName := ⟨RX4, "isTooLate", "(I)Z"⟩
abbrev cX4_isUnder : ByteArray := prog_1_method_54_code
def yX4_isUnder : MethodName := ⟨RX4, "isUnder", "(II)Z"⟩
abbrev cX4_isSafe : ByteArray := prog_1_method_55_code
def yX4_isSafe : MethodName := ⟨RX4, "isSafe", "(JI)Z"⟩
abbrev cX4_findBanks : ByteArray := prog_1_method_56_code
def yX4_findBanks : MethodName := ⟨RX4, "findBanks", "()I"⟩
abbrev cX4_leastBars : ByteArray := prog_1_method_57_code
def yX4_leastBars : MethodName := ⟨RX4, "leastBars", "(II)I"⟩
abbrev cX4_doorsOf : ByteArray := prog_1_method_58_code
def yX4_doorsOf : MethodName := ⟨RX4, "doorsOf", "(II)J"⟩
abbrev cX4_placesWithLamps : ByteArray := prog_1_method_59_code
def yX4_placesWithLamps : MethodName := ⟨RX4, "placesWithLamps", "(II)J"⟩
abbrev cX4_countOthers : ByteArray := prog_1_method_60_code
def yX4_countOthers : MethodName := ⟨RX4, "countOthers", "(JJ)I"⟩
abbrev cX4_spreadOdds : ByteArray := prog_1_method_61_code
def yX4_spreadOdds : MethodName := ⟨RX4, "spreadOdds", "(II)V"⟩
abbrev cX4_spreadFrom : ByteArray := prog_1_method_62_code
def yX4_spreadFrom : MethodName := ⟨RX4, "spreadFrom", "(I)V"⟩
def RX5 : String := "SleepWardModel"
def TX5 : u_T := fun k => match k with
  | 0 => ("SleepWardModel", "s", "[I", true)
  | 1 => ("SleepWardModel", "kept", "[I", true)
  | 2 => ("SleepWardModel", "aside", "[I", true)
  | 3 => ("SleepWardModel", "before", "[I", true)
  | 4 => ("SleepWardModel", "isKept", "Z", false)
  | 5 => ("SleepWardModel", "findings", "[I", true)
  | 6 => ("SleepWardModel", "bank", "[I", true)
  | 7 => ("SleepWardModel", "places", "[I", true)
  | 8 => ("SleepWardModel", "parts", "[J", true)
  | 9 => ("SleepWardModel", "next", "[J", true)
  | 10 => ("SleepWardModel", "tape", "[I", true)
  | 11 => ("SleepWardModel", "taped", "I", false)
  | 12 => ("SleepWardModel", "here", "I", false)
  | 13 => ("SleepWardModel", "fault", "I", false)
  | 14 => ("SleepWardModel", "value", "I", false)
  | 15 => ("SleepWardModel", "bits", "[I", true)
  | 16 => ("SleepWardModel", "longs", "[I", true)
  | 17 => ("SleepWardModel", "cells", "[J", true)
  | _ => ("SleepWardModel", "between", "[J", true)
def tyX5 : Nat → FieldType := fun k => match k with
  | 0 => .array .int
  | 1 => .array .int
  | 2 => .array .int
  | 3 => .array .int
  | 4 => .boolean
  | 5 => .array .int
  | 6 => .array .int
  | 7 => .array .int
  | 8 => .array .long
  | 9 => .array .long
  | 10 => .array .int
  | 11 => .int
  | 12 => .int
  | 13 => .int
  | 14 => .int
  | 15 => .array .int
  | 16 => .array .int
  | 17 => .array .long
  | _ => .array .long
abbrev wsX50 : List Cond := u_ws RX5 TX5 19
theorem nmX5 : ∀ a, a < 19 → ∀ b, b < 19 → a ≠ b → (TX5 a).2.1 ≠ (TX5 b).2.1 := by decide +kernel
theorem tyX5_ok : ∀ k, k < 19 → parseFieldDescriptor (TX5 k).2.2.1 = some (tyX5 k) := by decide +kernel
abbrev cX5_init : ByteArray := prog_7_method_1_code
def yX5_init : MethodName := ⟨RX5, "<init>", "()V"⟩
abbrev cX5_in : ByteArray := prog_7_method_2_code
def yX5_in : MethodName := ⟨RX5, "in", "(III)Z"⟩
abbrev cX5_no : ByteArray := prog_7_method_3_code
def yX5_no : MethodName := ⟨RX5, "no", "(I)I"⟩
abbrev cX5_lay : ByteArray := prog_7_method_4_code
def yX5_lay : MethodName := ⟨RX5, "lay", "([I[I)V"⟩
abbrev cX5_draw : ByteArray := prog_7_method_5_code
def yX5_draw : MethodName := ⟨RX5, "draw", "()I"⟩
abbrev cX5_isSquare : ByteArray := prog_7_method_6_code
def yX5_isSquare : MethodName := ⟨RX5, "isSquare", "(I)Z"⟩
abbrev cX5_isWay : ByteArray := prog_7_method_7_code
def yX5_isWay : MethodName := ⟨RX5, "isWay", "(I)Z"⟩
abbrev cX5_isWalker : ByteArray := prog_7_method_8_code
def yX5_isWalker : MethodName := ⟨RX5, "isWalker", "(I)Z"⟩
abbrev cX5_has : ByteArray := prog_7_method_9_code
def yX5_has : MethodName := ⟨RX5, "has", "(II)I"⟩
abbrev cX5_gets : ByteArray := prog_7_method_10_code
def yX5_gets : MethodName := ⟨RX5, "gets", "(III)I"⟩
abbrev cX5_puts : ByteArray := prog_7_method_11_code
def yX5_puts : MethodName := ⟨RX5, "puts", "(II)I"⟩
abbrev cX5_beside : ByteArray := prog_7_method_12_code
def yX5_beside : MethodName := ⟨RX5, "beside", "(II)I"⟩
abbrev cX5_doorAt : ByteArray := prog_7_method_13_code
def yX5_doorAt : MethodName := ⟨RX5, "doorAt", "(II)I"⟩
abbrev cX5_wayTo : ByteArray := prog_7_method_14_code
def yX5_wayTo : MethodName := ⟨RX5, "wayTo", "(II)I"⟩
abbrev cX5_may : ByteArray := prog_7_method_15_code
def yX5_may : MethodName := ⟨RX5, "may", "(II)Z"⟩
abbrev cX5_doorOf : ByteArray := prog_7_method_16_code
def yX5_doorOf : MethodName := ⟨RX5, "doorOf", "(II)I"⟩
abbrev cX5_door : ByteArray := prog_7_method_17_code
def yX5_door : MethodName := ⟨RX5, "door", "(IIZ)I"⟩
abbrev cX5_isOpen : ByteArray := prog_7_method_18_code
def yX5_isOpen : MethodName := ⟨RX5, "isOpen", "(II)I"⟩
abbrev cX5_height : ByteArray := prog_7_method_19_code
def yX5_height : MethodName := ⟨RX5, "height", "(II)I"⟩
abbrev cX5_mark : ByteArray := prog_7_method_20_code
def yX5_mark : MethodName := ⟨RX5, "mark", "(IIZ)I"⟩
abbrev cX5_walkersAt : ByteArray := prog_7_method_21_code
def yX5_walkersAt : MethodName := ⟨RX5, "walkersAt", "(I)I"⟩
abbrev cX5_squareOf : ByteArray := prog_7_method_22_code
def yX5_squareOf : MethodName := ⟨RX5, "squareOf", "(II)I"⟩
abbrev cX5_moon : ByteArray := prog_7_method_23_code
def yX5_moon : MethodName := ⟨RX5, "moon", "(I)I"⟩
abbrev cX5_round : ByteArray := prog_7_method_24_code
def yX5_round : MethodName := ⟨RX5, "round", "(I)I"⟩
abbrev cX5_rest : ByteArray := prog_7_method_25_code
def yX5_rest : MethodName := ⟨RX5, "rest", "()I"⟩
abbrev cX5_isKind : ByteArray := prog_7_method_26_code
def yX5_isKind : MethodName := ⟨RX5, "isKind", "(I)Z"⟩
abbrev cX5_adds : ByteArray := prog_7_method_27_code
def yX5_adds : MethodName := ⟨RX5, "adds", "(III)V"⟩
abbrev cX5_walker : ByteArray := prog_7_method_28_code
def yX5_walker : MethodName := ⟨RX5, "walker", "(III)I"⟩
abbrev cX5_waysFrom : ByteArray := prog_7_method_29_code
def yX5_waysFrom : MethodName := ⟨RX5, "waysFrom", "(I)I"⟩
abbrev cX5_of : ByteArray := prog_7_method_30_code
def yX5_of : MethodName := ⟨RX5, "of", "(II)I"⟩
abbrev cX5_set : ByteArray := prog_7_method_31_code
def yX5_set : MethodName := ⟨RX5, "set", "(III)I"⟩
abbrev cX5_wake : ByteArray := prog_7_method_32_code
def yX5_wake : MethodName := ⟨RX5, "wake", "(IZ)I"⟩
abbrev cX5_turn : ByteArray := prog_7_method_33_code
def yX5_turn : MethodName := ⟨RX5, "turn", "(II)I"⟩
abbrev cX5_isUnder : ByteArray := prog_7_method_34_code
def yX5_isUnder : MethodName := ⟨RX5, "isUnder", "(II)Z"⟩
abbrev cX5_as : ByteArray := prog_7_method_35_code
def yX5_as : MethodName := ⟨RX5, "as", "(II)I"⟩
abbrev cX5_turned : ByteArray := prog_7_method_36_code
def yX5_turned : MethodName := ⟨RX5, "turned", "(IIZ)I"⟩
abbrev cX5_lampStep : ByteArray := prog_7_method_37_code
def yX5_lampStep : MethodName := ⟨RX5, "lampStep", "(II)I"⟩
abbrev cX5_slopeStep : ByteArray := prog_7_method_38_code
def yX5_slopeStep : MethodName := ⟨RX5, "slopeStep", "(II)I"⟩
abbrev cX5_ones : ByteArray := prog_7_method_39_code
def yX5_ones : MethodName := ⟨RX5, "ones", "(I)I"⟩
abbrev cX5_wanderStep : ByteArray := prog_7_method_40_code
def yX5_wanderStep : MethodName := ⟨RX5, "wanderStep", "(I)I"⟩
abbrev cX5_stepOf : ByteArray := prog_7_method_41_code
def yX5_stepOf : MethodName := ⟨RX5, "stepOf", "(I)I"⟩
abbrev cX5_step : ByteArray := prog_7_method_42_code
def yX5_step : MethodName := ⟨RX5, "step", "(I)I"⟩
abbrev cX5_isIn : ByteArray := prog_7_method_43_code
def yX5_isIn : MethodName := ⟨RX5, "isIn", "(I)Z"⟩
abbrev cX5_goes : ByteArray := prog_7_method_44_code
def yX5_goes : MethodName := ⟨RX5, "goes", "(I)Z"⟩
abbrev cX5_minute : ByteArray := prog_7_method_45_code
def yX5_minute : MethodName := ⟨RX5, "minute", "()V"⟩
abbrev cX5_go : ByteArray := prog_7_method_46_code
def yX5_go : MethodName := ⟨RX5, "go", "(I)V"⟩
abbrev cX5_inRiver : ByteArray := prog_7_method_47_code
def yX5_inRiver : MethodName := ⟨RX5, "inRiver", "()I"⟩
abbrev cX5_isLate : ByteArray := prog_7_method_48_code
def yX5_isLate : MethodName := ⟨RX5, "isLate", "(I)Z"⟩
abbrev cX5_minutes : ByteArray := prog_7_method_49_code
def yX5_minutes : MethodName := ⟨RX5, "minutes", "(I)I"⟩
abbrev cX5_homeMany : ByteArray := prog_7_method_50_code
def yX5_homeMany : MethodName := ⟨RX5, "homeMany", "()I"⟩
abbrev cX5_bed : ByteArray := prog_7_method_51_code
def yX5_bed : MethodName := ⟨RX5, "bed", "()I"⟩
abbrev cX5_seed : ByteArray := prog_7_method_52_code
def yX5_seed : MethodName := ⟨RX5, "seed", "(I)I"⟩
abbrev cX5_awake : ByteArray := prog_7_method_53_code
def yX5_awake : MethodName := ⟨RX5, "awake", "()I"⟩
abbrev cX5_now : ByteArray := prog_7_method_54_code
def yX5_now : MethodName := ⟨RX5, "now", "(I)I"⟩
abbrev cX5_on : ByteArray := prog_7_method_55_code
def yX5_on : MethodName := ⟨RX5, "on", "(II)I"⟩
abbrev cX5_is : ByteArray := prog_7_method_56_code
def yX5_is : MethodName := ⟨RX5, "is", "(III)Z"⟩
abbrev cX5_soonest : ByteArray := prog_7_method_57_code
def yX5_soonest : MethodName := ⟨RX5, "soonest", "(III)I"⟩
abbrev cX5_river : ByteArray := prog_7_method_58_code
def yX5_river : MethodName := ⟨RX5, "river", "(I)I"⟩
abbrev cX5_meet : ByteArray := prog_7_method_59_code
def yX5_meet : MethodName := ⟨RX5, "meet", "(II)I"⟩
abbrev cX5_home : ByteArray := prog_7_method_60_code
def yX5_home : MethodName := ⟨RX5, "home", "(I)I"⟩
abbrev cX5_isSafe : ByteArray := prog_7_method_61_code
def yX5_isSafe : MethodName := ⟨RX5, "isSafe", "(I)Z"⟩
abbrev cX5_safe : ByteArray := prog_7_method_62_code
def yX5_safe : MethodName := ⟨RX5, "safe", "(I)I"⟩
abbrev cX5_banks : ByteArray := prog_7_method_63_code
def yX5_banks : MethodName := ⟨RX5, "banks", "()I"⟩
abbrev cX5_isSafeBy : ByteArray := prog_7_method_64_code
def yX5_isSafeBy : MethodName := ⟨RX5, "isSafeBy", "(III)Z"⟩
abbrev cX5_barred : ByteArray := prog_7_method_65_code
def yX5_barred : MethodName := ⟨RX5, "barred", "(II)I"⟩
abbrev cX5_lamp : ByteArray := prog_7_method_66_code
def yX5_lamp : MethodName := ⟨RX5, "lamp", "(I)I"⟩
abbrev cX5_watch : ByteArray := prog_7_method_67_code
def yX5_watch : MethodName := ⟨RX5, "watch", "(I)I"⟩
abbrev cX5_loop : ByteArray := prog_7_method_68_code
def yX5_loop : MethodName := ⟨RX5, "loop", "(I)I"⟩
abbrev cX5_spreads : ByteArray := prog_7_method_69_code
def yX5_spreads : MethodName := ⟨RX5, "spreads", "(II)V"⟩
abbrev cX5_odds : ByteArray := prog_7_method_70_code
def yX5_odds : MethodName := ⟨RX5, "odds", "(III)J"⟩
abbrev cX5_likeliest : ByteArray := prog_7_method_71_code
def yX5_likeliest : MethodName := ⟨RX5, "likeliest", "(II)I"⟩
abbrev cX5_feed : ByteArray := prog_7_method_72_code
def yX5_feed : MethodName := ⟨RX5, "feed", "(II)I"⟩
abbrev cX5_wipe : ByteArray := prog_7_method_73_code
def yX5_wipe : MethodName := ⟨RX5, "wipe", "()I"⟩
abbrev cX5_byteAt : ByteArray := prog_7_method_74_code
def yX5_byteAt : MethodName := ⟨RX5, "byteAt", "(I)I"⟩
abbrev cX5_blanks : ByteArray := prog_7_method_75_code
def yX5_blanks : MethodName := ⟨RX5, "blanks", "()V"⟩
abbrev cX5_fails : ByteArray := prog_7_method_76_code
def yX5_fails : MethodName := ⟨RX5, "fails", "()Z"⟩
abbrev cX5_isLetter : ByteArray := prog_7_method_77_code
def yX5_isLetter : MethodName := ⟨RX5, "isLetter", "(I)Z"⟩
abbrev cX5_isDigit : ByteArray := prog_7_method_78_code
def yX5_isDigit : MethodName := ⟨RX5, "isDigit", "(I)Z"⟩
abbrev cX5_wordEnd : ByteArray := prog_7_method_79_code
def yX5_wordEnd : MethodName := ⟨RX5, "wordEnd", "()I"⟩
abbrev cX5_isWord : ByteArray := prog_7_method_80_code
def yX5_isWord : MethodName := ⟨RX5, "isWord", "(Ljava/lang/String;)Z"⟩
abbrev cX5_may_ : ByteArray := prog_7_method_81_code
def yX5_may_ : MethodName := ⟨RX5, "may", "(Ljava/lang/String;)Z"⟩
abbrev cX5_must : ByteArray := prog_7_method_82_code
def yX5_must : MethodName := ⟨RX5, "must", "(Ljava/lang/String;)Z"⟩
abbrev cX5_number : ByteArray := prog_7_method_83_code
def yX5_number : MethodName := ⟨RX5, "number", "(II)Z"⟩
abbrev cX5_isNumber : ByteArray := prog_7_method_84_code
def yX5_isNumber : MethodName := ⟨RX5, "isNumber", "()Z"⟩
abbrev cX5_kindName : ByteArray := prog_7_method_85_code
def yX5_kindName : MethodName := ⟨RX5, "kindName", "(I)Ljava/lang/String;"⟩
abbrev cX5_doorTold : ByteArray := prog_7_method_86_code
def yX5_doorTold : MethodName := ⟨RX5, "doorTold", "(I)Z"⟩
abbrev cX5_heightTold : ByteArray := prog_7_method_87_code
def yX5_heightTold : MethodName := ⟨RX5, "heightTold", "()Z"⟩
abbrev cX5_markTold : ByteArray := prog_7_method_88_code
def yX5_markTold : MethodName := ⟨RX5, "markTold", "(II)Z"⟩
abbrev cX5_walkerTold : ByteArray := prog_7_method_89_code
def yX5_walkerTold : MethodName := ⟨RX5, "walkerTold", "(I)Z"⟩
abbrev cX5_roundsTold : ByteArray := prog_7_method_90_code
def yX5_roundsTold : MethodName := ⟨RX5, "roundsTold", "()Z"⟩
abbrev cX5_item : ByteArray := prog_7_method_91_code
def yX5_item : MethodName := ⟨RX5, "item", "()Z"⟩
abbrev cX5_ward : ByteArray := prog_7_method_92_code
def yX5_ward : MethodName := ⟨RX5, "ward", "()I"⟩
abbrev cX5_isSheet : ByteArray := prog_7_method_93_code
def yX5_isSheet : MethodName := ⟨RX5, "isSheet", "(I)Z"⟩
abbrev cX5_sheet : ByteArray := prog_7_method_94_code
def yX5_sheet : MethodName := ⟨RX5, "sheet", "(III)I"⟩
abbrev cX5_writes : ByteArray := prog_7_method_95_code
def yX5_writes : MethodName := ⟨RX5, "writes", "(IIJ)V"⟩
abbrev cX5_write : ByteArray := prog_7_method_96_code
def yX5_write : MethodName := ⟨RX5, "write", "(IIJ)J"⟩
abbrev cX5_copy : ByteArray := prog_7_method_97_code
def yX5_copy : MethodName := ⟨RX5, "copy", "(IIIII)I"⟩
abbrev cX5_lays : ByteArray := prog_7_method_98_code
def yX5_lays : MethodName := ⟨RX5, "lays", "(I)I"⟩
abbrev cX5_track : ByteArray := prog_7_method_99_code
def yX5_track : MethodName := ⟨RX5, "track", "(II)I"⟩
abbrev cX5_whose : ByteArray := prog_7_method_100_code
def yX5_whose : MethodName := ⟨RX5, "whose", "(I)I"⟩
abbrev cX5_image : ByteArray := prog_7_method_101_code
def yX5_image : MethodName := ⟨RX5, "image", "()I"⟩
abbrev cX5_undo : ByteArray := prog_7_method_102_code
def yX5_undo : MethodName := ⟨RX5, "undo", "()I"⟩
abbrev cX5_tear : ByteArray := prog_7_method_103_code
def yX5_tear : MethodName := ⟨RX5, "tear", "()I"⟩
abbrev cX5_sumOf : ByteArray := prog_7_method_104_code
def yX5_sumOf : MethodName := ⟨RX5, "sumOf", "(II)I"⟩
abbrev cX5_count : ByteArray := prog_7_method_105_code
def yX5_count : MethodName := ⟨RX5, "count", "(I)I"⟩
abbrev cX5_status : ByteArray := prog_7_method_106_code
def yX5_status : MethodName := ⟨RX5, "status", "(I)I"⟩
def RJ6 : String := "java/lang/Integer"
def TJ6 : u_T := fun k => match k with
  | _ => ("", "", "", false)
def tyJ6 : Nat → FieldType := fun k => match k with
  | _ => .int
abbrev cJ6_bitCount_0f7a4 : ByteArray := prog_8_method_49_code
def yJ6_bitCount_0f7a4 : MethodName := ⟨RJ6, "bitCount", "(I)I"⟩
def RJ13 : String := "java/lang/Long"
def TJ13 : u_T := fun k => match k with
  | _ => ("", "", "", false)
def tyJ13 : Nat → FieldType := fun k => match k with
  | _ => .int
abbrev cJ13_bitCount_95d88 : ByteArray := prog_9_method_50_code
def yJ13_bitCount_95d88 : MethodName := ⟨RJ13, "bitCount", "(J)I"⟩
def RJ9 : String := "java/lang/Math"
def TJ9 : u_T := fun k => match k with
  | _ => ("", "", "", false)
def tyJ9 : Nat → FieldType := fun k => match k with
  | _ => .int
abbrev cJ9_max_7cf53 : ByteArray := prog_10_method_65_code
def yJ9_max_7cf53 : MethodName := ⟨RJ9, "max", "(II)I"⟩
abbrev cJ9_min_7cf53 : ByteArray := prog_10_method_69_code
def yJ9_min_7cf53 : MethodName := ⟨RJ9, "min", "(II)I"⟩
abbrev cJ9_min_f86c9 : ByteArray := prog_10_method_70_code
def yJ9_min_f86c9 : MethodName := ⟨RJ9, "min", "(JJ)J"⟩
def RJ0 : String := "java/lang/String"
def TJ0 : u_T := fun k => match k with
  | _ => ("", "", "", false)
def tyJ0 : Nat → FieldType := fun k => match k with
  | _ => .int
abbrev cJ0_length_8abf5 : ByteArray := prog_11_method_54_code
def yJ0_length_8abf5 : MethodName := ⟨RJ0, "length", "()I"⟩
abbrev cJ0_charAt_5068e : ByteArray := prog_11_method_56_code
def yJ0_charAt_5068e : MethodName := ⟨RJ0, "charAt", "(I)C"⟩
abbrev cJ0_coder_7d493 : ByteArray := prog_11_method_152_code
def yJ0_coder_7d493 : MethodName := ⟨RJ0, "coder", "()B"⟩
abbrev cJ0_isLatin1_aae02 : ByteArray := prog_11_method_154_code
def yJ0_isLatin1_aae02 : MethodName := ⟨RJ0, "isLatin1", "()Z"⟩
abbrev cJ0_checkIndex_df160 : ByteArray := prog_11_method_155_code
def yJ0_checkIndex_df160 : MethodName := ⟨RJ0, "checkIndex", "(II)V"⟩
def RJ1 : String := "java/lang/StringLatin1"
def TJ1 : u_T := fun k => match k with
  | _ => ("", "", "", false)
def tyJ1 : Nat → FieldType := fun k => match k with
  | _ => .int
abbrev cJ1_charAt_3b067 : ByteArray := prog_12_method_2_code
def yJ1_charAt_3b067 : MethodName := ⟨RJ1, "charAt", "([BI)C"⟩
def RJ2 : String := "java/lang/StringUTF16"
def TJ2 : u_T := fun k => match k with
  | _ => ("", "", "", false)
def tyJ2 : Nat → FieldType := fun k => match k with
  | _ => .int
abbrev cJ2_getChar_3b067 : ByteArray := prog_13_method_5_code
def yJ2_getChar_3b067 : MethodName := ⟨RJ2, "getChar", "([BI)C"⟩
abbrev cJ2_length_9d52b : ByteArray := prog_13_method_6_code
def yJ2_length_9d52b : MethodName := ⟨RJ2, "length", "([B)I"⟩
abbrev cJ2_charAt_3b067 : ByteArray := prog_13_method_83_code
def yJ2_charAt_3b067 : MethodName := ⟨RJ2, "charAt", "([BI)C"⟩
abbrev cJ2_checkIndex_2214a : ByteArray := prog_13_method_91_code
def yJ2_checkIndex_2214a : MethodName := ⟨RJ2, "checkIndex", "(I[B)V"⟩
def RJ10 : String := "java/lang/System"
def TJ10 : u_T := fun k => match k with
  | _ => ("", "", "", false)
def tyJ10 : Nat → FieldType := fun k => match k with
  | _ => .int
def RJ7 : String := "java/util/Arrays"
def TJ7 : u_T := fun k => match k with
  | _ => ("", "", "", false)
def tyJ7 : Nat → FieldType := fun k => match k with
  | _ => .int
abbrev cJ7_fill_d0a16 : ByteArray := prog_15_method_101_code
def yJ7_fill_d0a16 : MethodName := ⟨RJ7, "fill", "([JJ)V"⟩
abbrev cJ7_fill_53178 : ByteArray := prog_15_method_103_code
def yJ7_fill_53178 : MethodName := ⟨RJ7, "fill", "([II)V"⟩
def RJ3 : String := "jdk/internal/util/Preconditions"
def TJ3 : u_T := fun k => match k with
  | _ => ("", "", "", false)
def tyJ3 : Nat → FieldType := fun k => match k with
  | _ => .int
abbrev cJ3_checkIndex_8e157 : ByteArray := prog_16_method_11_code
def yJ3_checkIndex_8e157 : MethodName := ⟨RJ3, "checkIndex", "(IILjava/util/function/BiFunction;)I"⟩
def RL : String := "SleepWardLaw"
abbrev cL_law : ByteArray := code
def yL_law : MethodName := ⟨RL, "law", "([I)Z"⟩
abbrev vwCl : List vw_C := [(RX0, TX0, 3), (RX1, TX1, 7), (RX2, TX2, 5), (RX3, TX3, 13), (RX4, TX4, 11), (RX5, TX5, 19)]
/-- the words that every method may use: those of the tables that stay good in a callee -/
def Gw : List Cond := lw_tbl.filter goodWord
end
section
/-! words, link tables, method records: by program -/
theorem gw_at {w : Cond} (i : Nat) (h : lw_tbl[i]? = some w) (hg : goodWord w = true) : w ∈ Gw := List.mem_filter.mpr ⟨List.mem_of_getElem? h, hg⟩
theorem gw_227 : Cond.fieldLink RX0 9 "SleepWard$Sheet" "bits" "I" ∈ Gw := gw_at 227 (by decide +kernel) rfl
theorem gw_229 : Cond.fieldLink RX0 15 "SleepWard$Sheet" "length" "I" ∈ Gw := gw_at 229 (by decide +kernel) rfl
theorem gw_231 : Cond.fieldLink RX0 18 "SleepWard$Sheet" "numbers" "[J" ∈ Gw := gw_at 231 (by decide +kernel) rfl
theorem gw_139 : Cond.fieldLink RX1 96 "SleepWard$Ward" "heights" "[I" ∈ Gw := gw_at 139 (by decide +kernel) rfl
theorem gw_145 : Cond.fieldLink RX1 79 "SleepWard$Ward" "moon" "I" ∈ Gw := gw_at 145 (by decide +kernel) rfl
theorem gw_160 : Cond.fieldLink RX1 114 "SleepWard$Ward" "walkerCount" "I" ∈ Gw := gw_at 160 (by decide +kernel) rfl
theorem gw_195 : Cond.fieldLink RX1 9 "SleepWard$Text" "bytes" "[B" ∈ Gw := gw_at 195 (by decide +kernel) rfl
theorem gw_196 : Cond.fieldLink RX1 15 "SleepWard$Text" "length" "I" ∈ Gw := gw_at 196 (by decide +kernel) rfl
theorem gw_198 : Cond.fieldLink RX1 19 "SleepWard$Text" "fault" "I" ∈ Gw := gw_at 198 (by decide +kernel) rfl
theorem gw_200 : Cond.fieldLink RX1 22 "SleepWard$Text" "token" "I" ∈ Gw := gw_at 200 (by decide +kernel) rfl
theorem gw_201 : Cond.fieldLink RX1 25 "SleepWard$Text" "start" "I" ∈ Gw := gw_at 201 (by decide +kernel) rfl
theorem gw_202 : Cond.fieldLink RX1 28 "SleepWard$Text" "end" "I" ∈ Gw := gw_at 202 (by decide +kernel) rfl
theorem gw_203 : Cond.fieldLink RX1 31 "SleepWard$Text" "number" "I" ∈ Gw := gw_at 203 (by decide +kernel) rfl
theorem gw_108 : Cond.fieldLink RX2 9 "SleepWard$Walker" "kind" "I" ∈ Gw := gw_at 108 (by decide +kernel) rfl
theorem gw_111 : Cond.fieldLink RX2 15 "SleepWard$Walker" "home" "I" ∈ Gw := gw_at 111 (by decide +kernel) rfl
theorem gw_114 : Cond.fieldLink RX2 18 "SleepWard$Walker" "place" "I" ∈ Gw := gw_at 114 (by decide +kernel) rfl
theorem gw_117 : Cond.fieldLink RX2 21 "SleepWard$Walker" "way" "I" ∈ Gw := gw_at 117 (by decide +kernel) rfl
theorem gw_120 : Cond.fieldLink RX2 24 "SleepWard$Walker" "awake" "Z" ∈ Gw := gw_at 120 (by decide +kernel) rfl
theorem gw_110 : Cond.fieldLink RX3 100 "SleepWard$Walker" "kind" "I" ∈ Gw := gw_at 110 (by decide +kernel) rfl
theorem gw_113 : Cond.fieldLink RX3 103 "SleepWard$Walker" "home" "I" ∈ Gw := gw_at 113 (by decide +kernel) rfl
theorem gw_116 : Cond.fieldLink RX3 106 "SleepWard$Walker" "place" "I" ∈ Gw := gw_at 116 (by decide +kernel) rfl
theorem gw_119 : Cond.fieldLink RX3 109 "SleepWard$Walker" "way" "I" ∈ Gw := gw_at 119 (by decide +kernel) rfl
theorem gw_122 : Cond.fieldLink RX3 112 "SleepWard$Walker" "awake" "Z" ∈ Gw := gw_at 122 (by decide +kernel) rfl
theorem gw_135 : Cond.fieldLink RX3 9 "SleepWard$Ward" "shut" "J" ∈ Gw := gw_at 135 (by decide +kernel) rfl
theorem gw_137 : Cond.fieldLink RX3 15 "SleepWard$Ward" "heights" "[I" ∈ Gw := gw_at 137 (by decide +kernel) rfl
theorem gw_140 : Cond.fieldLink RX3 19 "SleepWard$Ward" "lamps" "I" ∈ Gw := gw_at 140 (by decide +kernel) rfl
theorem gw_142 : Cond.fieldLink RX3 23 "SleepWard$Ward" "river" "I" ∈ Gw := gw_at 142 (by decide +kernel) rfl
theorem gw_144 : Cond.fieldLink RX3 26 "SleepWard$Ward" "moon" "I" ∈ Gw := gw_at 144 (by decide +kernel) rfl
theorem gw_147 : Cond.fieldLink RX3 29 "SleepWard$Ward" "minute" "I" ∈ Gw := gw_at 147 (by decide +kernel) rfl
theorem gw_149 : Cond.fieldLink RX3 32 "SleepWard$Ward" "z" "I" ∈ Gw := gw_at 149 (by decide +kernel) rfl
theorem gw_151 : Cond.fieldLink RX3 35 "SleepWard$Ward" "watcher" "I" ∈ Gw := gw_at 151 (by decide +kernel) rfl
theorem gw_153 : Cond.fieldLink RX3 38 "SleepWard$Ward" "rounds" "[I" ∈ Gw := gw_at 153 (by decide +kernel) rfl
theorem gw_154 : Cond.fieldLink RX3 41 "SleepWard$Ward" "roundCount" "I" ∈ Gw := gw_at 154 (by decide +kernel) rfl
theorem gw_156 : Cond.fieldLink RX3 44 "SleepWard$Ward" "lastRound" "I" ∈ Gw := gw_at 156 (by decide +kernel) rfl
theorem gw_157 : Cond.fieldLink RX3 49 "SleepWard$Ward" "walkers" "[LSleepWard$Walker;" ∈ Gw := gw_at 157 (by decide +kernel) rfl
theorem gw_159 : Cond.fieldLink RX3 53 "SleepWard$Ward" "walkerCount" "I" ∈ Gw := gw_at 159 (by decide +kernel) rfl
theorem gw_450 : Cond.constant RX3 138 (1103515245) ∈ Gw := gw_at 450 (by decide +kernel) rfl
theorem gw_310 : Cond.constantLong RX3 92 (-1) ∈ Gw := gw_at 310 (by decide +kernel) rfl
theorem gw_109 : Cond.fieldLink RX4 135 "SleepWard$Walker" "kind" "I" ∈ Gw := gw_at 109 (by decide +kernel) rfl
theorem gw_112 : Cond.fieldLink RX4 140 "SleepWard$Walker" "home" "I" ∈ Gw := gw_at 112 (by decide +kernel) rfl
theorem gw_115 : Cond.fieldLink RX4 143 "SleepWard$Walker" "place" "I" ∈ Gw := gw_at 115 (by decide +kernel) rfl
theorem gw_118 : Cond.fieldLink RX4 146 "SleepWard$Walker" "way" "I" ∈ Gw := gw_at 118 (by decide +kernel) rfl
theorem gw_121 : Cond.fieldLink RX4 149 "SleepWard$Walker" "awake" "Z" ∈ Gw := gw_at 121 (by decide +kernel) rfl
theorem gw_136 : Cond.fieldLink RX4 281 "SleepWard$Ward" "shut" "J" ∈ Gw := gw_at 136 (by decide +kernel) rfl
theorem gw_138 : Cond.fieldLink RX4 82 "SleepWard$Ward" "heights" "[I" ∈ Gw := gw_at 138 (by decide +kernel) rfl
theorem gw_141 : Cond.fieldLink RX4 214 "SleepWard$Ward" "lamps" "I" ∈ Gw := gw_at 141 (by decide +kernel) rfl
theorem gw_143 : Cond.fieldLink RX4 289 "SleepWard$Ward" "river" "I" ∈ Gw := gw_at 143 (by decide +kernel) rfl
theorem gw_146 : Cond.fieldLink RX4 101 "SleepWard$Ward" "moon" "I" ∈ Gw := gw_at 146 (by decide +kernel) rfl
theorem gw_148 : Cond.fieldLink RX4 178 "SleepWard$Ward" "minute" "I" ∈ Gw := gw_at 148 (by decide +kernel) rfl
theorem gw_150 : Cond.fieldLink RX4 160 "SleepWard$Ward" "z" "I" ∈ Gw := gw_at 150 (by decide +kernel) rfl
theorem gw_152 : Cond.fieldLink RX4 181 "SleepWard$Ward" "watcher" "I" ∈ Gw := gw_at 152 (by decide +kernel) rfl
theorem gw_155 : Cond.fieldLink RX4 104 "SleepWard$Ward" "roundCount" "I" ∈ Gw := gw_at 155 (by decide +kernel) rfl
theorem gw_158 : Cond.fieldLink RX4 131 "SleepWard$Ward" "walkers" "[LSleepWard$Walker;" ∈ Gw := gw_at 158 (by decide +kernel) rfl
theorem gw_161 : Cond.fieldLink RX4 121 "SleepWard$Ward" "walkerCount" "I" ∈ Gw := gw_at 161 (by decide +kernel) rfl
theorem gw_197 : Cond.fieldLink RX4 235 "SleepWard$Text" "length" "I" ∈ Gw := gw_at 197 (by decide +kernel) rfl
theorem gw_199 : Cond.fieldLink RX4 245 "SleepWard$Text" "fault" "I" ∈ Gw := gw_at 199 (by decide +kernel) rfl
theorem gw_228 : Cond.fieldLink RX4 267 "SleepWard$Sheet" "bits" "I" ∈ Gw := gw_at 228 (by decide +kernel) rfl
theorem gw_230 : Cond.fieldLink RX4 254 "SleepWard$Sheet" "length" "I" ∈ Gw := gw_at 230 (by decide +kernel) rfl
theorem gw_232 : Cond.fieldLink RX4 260 "SleepWard$Sheet" "numbers" "[J" ∈ Gw := gw_at 232 (by decide +kernel) rfl
theorem gw_241 : Cond.fieldLink RX4 12 "SleepWard" "here" "LSleepWard$Ward;" ∈ Gw := gw_at 241 (by decide +kernel) rfl
theorem gw_242 : Cond.fieldLink RX4 16 "SleepWard" "ahead" "LSleepWard$Ward;" ∈ Gw := gw_at 242 (by decide +kernel) rfl
theorem gw_243 : Cond.fieldLink RX4 19 "SleepWard" "kept" "LSleepWard$Ward;" ∈ Gw := gw_at 243 (by decide +kernel) rfl
theorem gw_244 : Cond.fieldLink RX4 22 "SleepWard" "isKept" "Z" ∈ Gw := gw_at 244 (by decide +kernel) rfl
theorem gw_245 : Cond.fieldLink RX4 29 "SleepWard" "text" "LSleepWard$Text;" ∈ Gw := gw_at 245 (by decide +kernel) rfl
theorem gw_246 : Cond.fieldLink RX4 35 "SleepWard" "sheets" "[LSleepWard$Sheet;" ∈ Gw := gw_at 246 (by decide +kernel) rfl
theorem gw_247 : Cond.fieldLink RX4 39 "SleepWard" "banks" "[I" ∈ Gw := gw_at 247 (by decide +kernel) rfl
theorem gw_248 : Cond.fieldLink RX4 43 "SleepWard" "parts" "[J" ∈ Gw := gw_at 248 (by decide +kernel) rfl
theorem gw_249 : Cond.fieldLink RX4 47 "SleepWard" "nextParts" "[J" ∈ Gw := gw_at 249 (by decide +kernel) rfl
theorem gw_250 : Cond.fieldLink RX4 50 "SleepWard" "found" "[I" ∈ Gw := gw_at 250 (by decide +kernel) rfl
theorem gw_251 : Cond.fieldLink RX4 53 "SleepWard" "foundInAll" "I" ∈ Gw := gw_at 251 (by decide +kernel) rfl
theorem gw_297 : Cond.constant RX4 62 (-1000000001) ∈ Gw := gw_at 297 (by decide +kernel) rfl
theorem gw_359 : Cond.constant RX4 107 (-1000000002) ∈ Gw := gw_at 359 (by decide +kernel) rfl
theorem gw_419 : Cond.constant RX4 159 (-1000000003) ∈ Gw := gw_at 419 (by decide +kernel) rfl
theorem gw_459 : Cond.constant RX4 170 (-1000000005) ∈ Gw := gw_at 459 (by decide +kernel) rfl
theorem gw_513 : Cond.constant RX4 197 (-1000000004) ∈ Gw := gw_at 513 (by decide +kernel) rfl
theorem gw_539 : Cond.constant RX4 205 (-1000000007) ∈ Gw := gw_at 539 (by decide +kernel) rfl
theorem gw_756 : Cond.constant RX4 259 (-1000000006) ∈ Gw := gw_at 756 (by decide +kernel) rfl
theorem gw_560 : Cond.constantLong RX4 298 (255) ∈ Gw := gw_at 560 (by decide +kernel) rfl
theorem gw_585 : Cond.constantLong RX4 309 (12) ∈ Gw := gw_at 585 (by decide +kernel) rfl
theorem gw_773 : Cond.constantLong RX4 279 (9) ∈ Gw := gw_at 773 (by decide +kernel) rfl
theorem gw_417 : Cond.fieldLink RX4 292 "SleepWard" "KIND_ABOVE" "[I" ∈ Gw := gw_at 417 (by decide +kernel) rfl
theorem gw_814 : Cond.fieldLink RX5 9 "SleepWardModel" "s" "[I" ∈ Gw := gw_at 814 (by decide +kernel) rfl
theorem gw_815 : Cond.fieldLink RX5 13 "SleepWardModel" "kept" "[I" ∈ Gw := gw_at 815 (by decide +kernel) rfl
theorem gw_816 : Cond.fieldLink RX5 16 "SleepWardModel" "aside" "[I" ∈ Gw := gw_at 816 (by decide +kernel) rfl
theorem gw_817 : Cond.fieldLink RX5 19 "SleepWardModel" "before" "[I" ∈ Gw := gw_at 817 (by decide +kernel) rfl
theorem gw_818 : Cond.fieldLink RX5 323 "SleepWardModel" "isKept" "Z" ∈ Gw := gw_at 818 (by decide +kernel) rfl
theorem gw_819 : Cond.fieldLink RX5 22 "SleepWardModel" "findings" "[I" ∈ Gw := gw_at 819 (by decide +kernel) rfl
theorem gw_820 : Cond.fieldLink RX5 25 "SleepWardModel" "bank" "[I" ∈ Gw := gw_at 820 (by decide +kernel) rfl
theorem gw_821 : Cond.fieldLink RX5 28 "SleepWardModel" "places" "[I" ∈ Gw := gw_at 821 (by decide +kernel) rfl
theorem gw_822 : Cond.fieldLink RX5 31 "SleepWardModel" "parts" "[J" ∈ Gw := gw_at 822 (by decide +kernel) rfl
theorem gw_823 : Cond.fieldLink RX5 35 "SleepWardModel" "next" "[J" ∈ Gw := gw_at 823 (by decide +kernel) rfl
theorem gw_824 : Cond.fieldLink RX5 38 "SleepWardModel" "tape" "[I" ∈ Gw := gw_at 824 (by decide +kernel) rfl
theorem gw_825 : Cond.fieldLink RX5 189 "SleepWardModel" "taped" "I" ∈ Gw := gw_at 825 (by decide +kernel) rfl
theorem gw_826 : Cond.fieldLink RX5 193 "SleepWardModel" "here" "I" ∈ Gw := gw_at 826 (by decide +kernel) rfl
theorem gw_827 : Cond.fieldLink RX5 199 "SleepWardModel" "fault" "I" ∈ Gw := gw_at 827 (by decide +kernel) rfl
theorem gw_828 : Cond.fieldLink RX5 245 "SleepWardModel" "value" "I" ∈ Gw := gw_at 828 (by decide +kernel) rfl
theorem gw_829 : Cond.fieldLink RX5 41 "SleepWardModel" "bits" "[I" ∈ Gw := gw_at 829 (by decide +kernel) rfl
theorem gw_830 : Cond.fieldLink RX5 44 "SleepWardModel" "longs" "[I" ∈ Gw := gw_at 830 (by decide +kernel) rfl
theorem gw_831 : Cond.fieldLink RX5 47 "SleepWardModel" "cells" "[J" ∈ Gw := gw_at 831 (by decide +kernel) rfl
theorem gw_832 : Cond.fieldLink RX5 50 "SleepWardModel" "between" "[J" ∈ Gw := gw_at 832 (by decide +kernel) rfl
theorem gw_899 : Cond.constant RX5 53 (-1000000001) ∈ Gw := gw_at 899 (by decide +kernel) rfl
theorem gw_1021 : Cond.constant RX5 54 (1103515245) ∈ Gw := gw_at 1021 (by decide +kernel) rfl
theorem gw_1140 : Cond.constantLong RX5 183 (12) ∈ Gw := gw_at 1140 (by decide +kernel) rfl
theorem gw_1215 : Cond.constantLong RX5 233 (99999) ∈ Gw := gw_at 1215 (by decide +kernel) rfl
theorem gw_1216 : Cond.constantLong RX5 235 (10) ∈ Gw := gw_at 1216 (by decide +kernel) rfl
theorem gw_1217 : Cond.constantLong RX5 237 (48) ∈ Gw := gw_at 1217 (by decide +kernel) rfl
theorem gw_1274 : Cond.constantLong RX5 321 (9) ∈ Gw := gw_at 1274 (by decide +kernel) rfl
theorem gw_1307 : Cond.constantLong RL 156 (4294967295) ∈ Gw := gw_at 1307 (by decide +kernel) rfl
theorem gw_643 : Cond.fieldLink RJ0 38 "java/lang/String" "COMPACT_STRINGS" "Z" ∈ Gw := gw_at 643 (by decide +kernel) rfl
theorem gw_659 : Cond.fieldLink RJ0 1053 "jdk/internal/util/Preconditions" "SIOOBE_FORMATTER" "Ljava/util/function/BiFunction;" ∈ Gw := gw_at 659 (by decide +kernel) rfl
theorem gw_1308 : Cond.fieldLink RJ0 9 "java/lang/String" "value" "[B" ∈ Gw := gw_at 1308 (by decide +kernel) rfl
theorem gw_1309 : Cond.fieldLink RJ0 15 "java/lang/String" "coder" "B" ∈ Gw := gw_at 1309 (by decide +kernel) rfl
theorem gw_447 : Cond.constant RJ6 265 (1431655765) ∈ Gw := gw_at 447 (by decide +kernel) rfl
theorem gw_448 : Cond.constant RJ6 266 (858993459) ∈ Gw := gw_at 448 (by decide +kernel) rfl
theorem gw_449 : Cond.constant RJ6 267 (252645135) ∈ Gw := gw_at 449 (by decide +kernel) rfl
theorem gw_801 : Cond.constantLong RJ13 314 (6148914691236517205) ∈ Gw := gw_at 801 (by decide +kernel) rfl
theorem gw_802 : Cond.constantLong RJ13 316 (3689348814741910323) ∈ Gw := gw_at 802 (by decide +kernel) rfl
theorem gw_803 : Cond.constantLong RJ13 318 (1085102592571150095) ∈ Gw := gw_at 803 (by decide +kernel) rfl
theorem gw_755 : Cond.code yX0_isMissing cX0_isMissing 1 (some .boolean) ∈ Gw := gw_at 755 (by decide +kernel) rfl
theorem gw_753 : Cond.instanceMethod yX0_isMissing ∈ Gw := gw_at 753 (by decide +kernel) rfl
theorem gw_754 : Cond.selects RX0 yX0_isMissing yX0_isMissing ∈ Gw := gw_at 754 (by decide +kernel) rfl
theorem gw_74 : Cond.initialized RX0 ∈ Gw := gw_at 74 (by decide +kernel) rfl
theorem gw_580 : Cond.code yJ7_fill_d0a16 cJ7_fill_d0a16 5 none ∈ Gw := gw_at 580 (by decide +kernel) rfl
theorem gw_579 : Cond.static yJ7_fill_d0a16 ∈ Gw := gw_at 579 (by decide +kernel) rfl
theorem gw_71 : Cond.initialized RJ7 ∈ Gw := gw_at 71 (by decide +kernel) rfl
theorem gw_746 : Cond.code yX0_clear cX0_clear 3 none ∈ Gw := gw_at 746 (by decide +kernel) rfl
theorem gw_744 : Cond.instanceMethod yX0_clear ∈ Gw := gw_at 744 (by decide +kernel) rfl
theorem gw_745 : Cond.selects RX0 yX0_clear yX0_clear ∈ Gw := gw_at 745 (by decide +kernel) rfl
theorem gw_760 : Cond.code yX0_putNumber cX0_putNumber 4 none ∈ Gw := gw_at 760 (by decide +kernel) rfl
theorem gw_758 : Cond.instanceMethod yX0_putNumber ∈ Gw := gw_at 758 (by decide +kernel) rfl
theorem gw_759 : Cond.selects RX0 yX0_putNumber yX0_putNumber ∈ Gw := gw_at 759 (by decide +kernel) rfl
theorem gw_768 : Cond.code yX0_hasRun cX0_hasRun 3 (some .boolean) ∈ Gw := gw_at 768 (by decide +kernel) rfl
theorem gw_766 : Cond.instanceMethod yX0_hasRun ∈ Gw := gw_at 766 (by decide +kernel) rfl
theorem gw_767 : Cond.selects RX0 yX0_hasRun yX0_hasRun ∈ Gw := gw_at 767 (by decide +kernel) rfl
theorem gw_598 : Cond.code yX1_addByte cX1_addByte 2 none ∈ Gw := gw_at 598 (by decide +kernel) rfl
theorem gw_596 : Cond.instanceMethod yX1_addByte ∈ Gw := gw_at 596 (by decide +kernel) rfl
theorem gw_597 : Cond.selects RX1 yX1_addByte yX1_addByte ∈ Gw := gw_at 597 (by decide +kernel) rfl
theorem gw_73 : Cond.initialized RX1 ∈ Gw := gw_at 73 (by decide +kernel) rfl
theorem gw_617 : Cond.code yX1_isLetter cX1_isLetter 1 (some .boolean) ∈ Gw := gw_at 617 (by decide +kernel) rfl
theorem gw_616 : Cond.static yX1_isLetter ∈ Gw := gw_at 616 (by decide +kernel) rfl
theorem gw_620 : Cond.code yX1_isDigit cX1_isDigit 1 (some .boolean) ∈ Gw := gw_at 620 (by decide +kernel) rfl
theorem gw_619 : Cond.static yX1_isDigit ∈ Gw := gw_at 619 (by decide +kernel) rfl
theorem gw_614 : Cond.code yX1_nextToken cX1_nextToken 1 none ∈ Gw := gw_at 614 (by decide +kernel) rfl
theorem gw_613 : Cond.instanceMethod yX1_nextToken ∈ Gw := gw_at 613 (by decide +kernel) rfl
theorem gw_10 : Cond.selects RX1 yX1_nextToken yX1_nextToken ∈ Gw := gw_at 10 (by decide +kernel) rfl
theorem gw_642 : Cond.code yJ0_coder_7d493 cJ0_coder_7d493 1 (some .byte) ∈ Gw := gw_at 642 (by decide +kernel) rfl
theorem gw_640 : Cond.instanceMethod yJ0_coder_7d493 ∈ Gw := gw_at 640 (by decide +kernel) rfl
theorem gw_641 : Cond.selects RJ0 yJ0_coder_7d493 yJ0_coder_7d493 ∈ Gw := gw_at 641 (by decide +kernel) rfl
theorem gw_79 : Cond.initialized RJ0 ∈ Gw := gw_at 79 (by decide +kernel) rfl
theorem gw_638 : Cond.code yJ0_length_8abf5 cJ0_length_8abf5 1 (some .int) ∈ Gw := gw_at 638 (by decide +kernel) rfl
theorem gw_636 : Cond.instanceMethod yJ0_length_8abf5 ∈ Gw := gw_at 636 (by decide +kernel) rfl
theorem gw_637 : Cond.selects RJ0 yJ0_length_8abf5 yJ0_length_8abf5 ∈ Gw := gw_at 637 (by decide +kernel) rfl
theorem gw_652 : Cond.code yJ0_isLatin1_aae02 cJ0_isLatin1_aae02 1 (some .boolean) ∈ Gw := gw_at 652 (by decide +kernel) rfl
theorem gw_650 : Cond.instanceMethod yJ0_isLatin1_aae02 ∈ Gw := gw_at 650 (by decide +kernel) rfl
theorem gw_651 : Cond.selects RJ0 yJ0_isLatin1_aae02 yJ0_isLatin1_aae02 ∈ Gw := gw_at 651 (by decide +kernel) rfl
theorem gw_663 : Cond.code yJ3_checkIndex_8e157 cJ3_checkIndex_8e157 3 (some .int) ∈ Gw := gw_at 663 (by decide +kernel) rfl
theorem gw_662 : Cond.static yJ3_checkIndex_8e157 ∈ Gw := gw_at 662 (by decide +kernel) rfl
theorem gw_81 : Cond.initialized RJ3 ∈ Gw := gw_at 81 (by decide +kernel) rfl
theorem gw_658 : Cond.code yJ0_checkIndex_df160 cJ0_checkIndex_df160 2 none ∈ Gw := gw_at 658 (by decide +kernel) rfl
theorem gw_657 : Cond.static yJ0_checkIndex_df160 ∈ Gw := gw_at 657 (by decide +kernel) rfl
theorem gw_655 : Cond.code yJ1_charAt_3b067 cJ1_charAt_3b067 2 (some .char) ∈ Gw := gw_at 655 (by decide +kernel) rfl
theorem gw_654 : Cond.static yJ1_charAt_3b067 ∈ Gw := gw_at 654 (by decide +kernel) rfl
theorem gw_80 : Cond.initialized RJ1 ∈ Gw := gw_at 80 (by decide +kernel) rfl
theorem gw_672 : Cond.code yJ2_length_9d52b cJ2_length_9d52b 1 (some .int) ∈ Gw := gw_at 672 (by decide +kernel) rfl
theorem gw_671 : Cond.static yJ2_length_9d52b ∈ Gw := gw_at 671 (by decide +kernel) rfl
theorem gw_82 : Cond.initialized RJ2 ∈ Gw := gw_at 82 (by decide +kernel) rfl
theorem gw_669 : Cond.code yJ2_checkIndex_2214a cJ2_checkIndex_2214a 2 none ∈ Gw := gw_at 669 (by decide +kernel) rfl
theorem gw_668 : Cond.static yJ2_checkIndex_2214a ∈ Gw := gw_at 668 (by decide +kernel) rfl
theorem gw_676 : Cond.code yJ2_getChar_3b067 cJ2_getChar_3b067 2 (some .char) ∈ Gw := gw_at 676 (by decide +kernel) rfl
theorem gw_675 : Cond.static yJ2_getChar_3b067 ∈ Gw := gw_at 675 (by decide +kernel) rfl
theorem gw_666 : Cond.code yJ2_charAt_3b067 cJ2_charAt_3b067 2 (some .char) ∈ Gw := gw_at 666 (by decide +kernel) rfl
theorem gw_665 : Cond.static yJ2_charAt_3b067 ∈ Gw := gw_at 665 (by decide +kernel) rfl
theorem gw_648 : Cond.code yJ0_charAt_5068e cJ0_charAt_5068e 2 (some .char) ∈ Gw := gw_at 648 (by decide +kernel) rfl
theorem gw_646 : Cond.instanceMethod yJ0_charAt_5068e ∈ Gw := gw_at 646 (by decide +kernel) rfl
theorem gw_647 : Cond.selects RJ0 yJ0_charAt_5068e yJ0_charAt_5068e ∈ Gw := gw_at 647 (by decide +kernel) rfl
theorem gw_634 : Cond.code yX1_isWord cX1_isWord 3 (some .boolean) ∈ Gw := gw_at 634 (by decide +kernel) rfl
theorem gw_633 : Cond.instanceMethod yX1_isWord ∈ Gw := gw_at 633 (by decide +kernel) rfl
theorem gw_13 : Cond.selects RX1 yX1_isWord yX1_isWord ∈ Gw := gw_at 13 (by decide +kernel) rfl
theorem gw_630 : Cond.code yX1_takesWord cX1_takesWord 2 (some .boolean) ∈ Gw := gw_at 630 (by decide +kernel) rfl
theorem gw_629 : Cond.instanceMethod yX1_takesWord ∈ Gw := gw_at 629 (by decide +kernel) rfl
theorem gw_12 : Cond.selects RX1 yX1_takesWord yX1_takesWord ∈ Gw := gw_at 12 (by decide +kernel) rfl
theorem gw_690 : Cond.code yX1_takeNumber cX1_takeNumber 3 (some .int) ∈ Gw := gw_at 690 (by decide +kernel) rfl
theorem gw_689 : Cond.instanceMethod yX1_takeNumber ∈ Gw := gw_at 689 (by decide +kernel) rfl
theorem gw_15 : Cond.selects RX1 yX1_takeNumber yX1_takeNumber ∈ Gw := gw_at 15 (by decide +kernel) rfl
theorem gw_287 : Cond.code yX4_isWithin cX4_isWithin 3 (some .boolean) ∈ Gw := gw_at 287 (by decide +kernel) rfl
theorem gw_286 : Cond.static yX4_isWithin ∈ Gw := gw_at 286 (by decide +kernel) rfl
theorem gw_69 : Cond.initialized RX4 ∈ Gw := gw_at 69 (by decide +kernel) rfl
theorem gw_284 : Cond.code yX4_isSquare cX4_isSquare 1 (some .boolean) ∈ Gw := gw_at 284 (by decide +kernel) rfl
theorem gw_283 : Cond.static yX4_isSquare ∈ Gw := gw_at 283 (by decide +kernel) rfl
theorem gw_296 : Cond.code yX3_squareBeside cX3_squareBeside 2 (some .int) ∈ Gw := gw_at 296 (by decide +kernel) rfl
theorem gw_295 : Cond.static yX3_squareBeside ∈ Gw := gw_at 295 (by decide +kernel) rfl
theorem gw_70 : Cond.initialized RX3 ∈ Gw := gw_at 70 (by decide +kernel) rfl
theorem gw_281 : Cond.code yX3_doorBetween cX3_doorBetween 4 (some .int) ∈ Gw := gw_at 281 (by decide +kernel) rfl
theorem gw_280 : Cond.static yX3_doorBetween ∈ Gw := gw_at 280 (by decide +kernel) rfl
theorem gw_309 : Cond.code yX3_isShut cX3_isShut 2 (some .boolean) ∈ Gw := gw_at 309 (by decide +kernel) rfl
theorem gw_307 : Cond.instanceMethod yX3_isShut ∈ Gw := gw_at 307 (by decide +kernel) rfl
theorem gw_308 : Cond.selects RX3 yX3_isShut yX3_isShut ∈ Gw := gw_at 308 (by decide +kernel) rfl
theorem gw_305 : Cond.code yX3_putDoor cX3_putDoor 4 (some .boolean) ∈ Gw := gw_at 305 (by decide +kernel) rfl
theorem gw_303 : Cond.instanceMethod yX3_putDoor ∈ Gw := gw_at 303 (by decide +kernel) rfl
theorem gw_304 : Cond.selects RX3 yX3_putDoor yX3_putDoor ∈ Gw := gw_at 304 (by decide +kernel) rfl
theorem gw_686 : Cond.code yX1_readDoor cX1_readDoor 5 none ∈ Gw := gw_at 686 (by decide +kernel) rfl
theorem gw_685 : Cond.instanceMethod yX1_readDoor ∈ Gw := gw_at 685 (by decide +kernel) rfl
theorem gw_14 : Cond.selects RX1 yX1_readDoor yX1_readDoor ∈ Gw := gw_at 14 (by decide +kernel) rfl
theorem gw_698 : Cond.code yX1_readHeight cX1_readHeight 4 none ∈ Gw := gw_at 698 (by decide +kernel) rfl
theorem gw_697 : Cond.instanceMethod yX1_readHeight ∈ Gw := gw_at 697 (by decide +kernel) rfl
theorem gw_16 : Cond.selects RX1 yX1_readHeight yX1_readHeight ∈ Gw := gw_at 16 (by decide +kernel) rfl
theorem gw_332 : Cond.code yX3_hasLamp cX3_hasLamp 2 (some .boolean) ∈ Gw := gw_at 332 (by decide +kernel) rfl
theorem gw_330 : Cond.instanceMethod yX3_hasLamp ∈ Gw := gw_at 330 (by decide +kernel) rfl
theorem gw_331 : Cond.selects RX3 yX3_hasLamp yX3_hasLamp ∈ Gw := gw_at 331 (by decide +kernel) rfl
theorem gw_328 : Cond.code yX3_putLamp cX3_putLamp 4 (some .boolean) ∈ Gw := gw_at 328 (by decide +kernel) rfl
theorem gw_326 : Cond.instanceMethod yX3_putLamp ∈ Gw := gw_at 326 (by decide +kernel) rfl
theorem gw_327 : Cond.selects RX3 yX3_putLamp yX3_putLamp ∈ Gw := gw_at 327 (by decide +kernel) rfl
theorem gw_340 : Cond.code yX3_isRiver cX3_isRiver 2 (some .boolean) ∈ Gw := gw_at 340 (by decide +kernel) rfl
theorem gw_338 : Cond.instanceMethod yX3_isRiver ∈ Gw := gw_at 338 (by decide +kernel) rfl
theorem gw_339 : Cond.selects RX3 yX3_isRiver yX3_isRiver ∈ Gw := gw_at 339 (by decide +kernel) rfl
theorem gw_336 : Cond.code yX3_putRiver cX3_putRiver 4 (some .boolean) ∈ Gw := gw_at 336 (by decide +kernel) rfl
theorem gw_334 : Cond.instanceMethod yX3_putRiver ∈ Gw := gw_at 334 (by decide +kernel) rfl
theorem gw_335 : Cond.selects RX3 yX3_putRiver yX3_putRiver ∈ Gw := gw_at 335 (by decide +kernel) rfl
theorem gw_705 : Cond.code yX1_readRiver cX1_readRiver 4 none ∈ Gw := gw_at 705 (by decide +kernel) rfl
theorem gw_704 : Cond.instanceMethod yX1_readRiver ∈ Gw := gw_at 704 (by decide +kernel) rfl
theorem gw_17 : Cond.selects RX1 yX1_readRiver yX1_readRiver ∈ Gw := gw_at 17 (by decide +kernel) rfl
theorem gw_371 : Cond.code yX3_emptyRounds cX3_emptyRounds 1 none ∈ Gw := gw_at 371 (by decide +kernel) rfl
theorem gw_369 : Cond.instanceMethod yX3_emptyRounds ∈ Gw := gw_at 369 (by decide +kernel) rfl
theorem gw_370 : Cond.selects RX3 yX3_emptyRounds yX3_emptyRounds ∈ Gw := gw_at 370 (by decide +kernel) rfl
theorem gw_363 : Cond.code yX3_addRound cX3_addRound 2 none ∈ Gw := gw_at 363 (by decide +kernel) rfl
theorem gw_361 : Cond.instanceMethod yX3_addRound ∈ Gw := gw_at 361 (by decide +kernel) rfl
theorem gw_362 : Cond.selects RX3 yX3_addRound yX3_addRound ∈ Gw := gw_at 362 (by decide +kernel) rfl
theorem gw_713 : Cond.code yX1_readRounds cX1_readRounds 4 none ∈ Gw := gw_at 713 (by decide +kernel) rfl
theorem gw_712 : Cond.instanceMethod yX1_readRounds ∈ Gw := gw_at 712 (by decide +kernel) rfl
theorem gw_18 : Cond.selects RX1 yX1_readRounds yX1_readRounds ∈ Gw := gw_at 18 (by decide +kernel) rfl
theorem gw_726 : Cond.code yX1_nameOf cX1_nameOf 1 (some (.object "java/lang/String")) ∈ Gw := gw_at 726 (by decide +kernel) rfl
theorem gw_725 : Cond.static yX1_nameOf ∈ Gw := gw_at 725 (by decide +kernel) rfl
theorem gw_723 : Cond.code yX1_kindOfWord cX1_kindOfWord 2 (some .int) ∈ Gw := gw_at 723 (by decide +kernel) rfl
theorem gw_722 : Cond.instanceMethod yX1_kindOfWord ∈ Gw := gw_at 722 (by decide +kernel) rfl
theorem gw_20 : Cond.selects RX1 yX1_kindOfWord yX1_kindOfWord ∈ Gw := gw_at 20 (by decide +kernel) rfl
theorem gw_385 : Cond.code yX3_addWalker cX3_addWalker 5 none ∈ Gw := gw_at 385 (by decide +kernel) rfl
theorem gw_383 : Cond.instanceMethod yX3_addWalker ∈ Gw := gw_at 383 (by decide +kernel) rfl
theorem gw_384 : Cond.selects RX3 yX3_addWalker yX3_addWalker ∈ Gw := gw_at 384 (by decide +kernel) rfl
theorem gw_719 : Cond.code yX1_readWalker cX1_readWalker 5 none ∈ Gw := gw_at 719 (by decide +kernel) rfl
theorem gw_718 : Cond.instanceMethod yX1_readWalker ∈ Gw := gw_at 718 (by decide +kernel) rfl
theorem gw_19 : Cond.selects RX1 yX1_readWalker yX1_readWalker ∈ Gw := gw_at 19 (by decide +kernel) rfl
theorem gw_625 : Cond.code yX1_readItem cX1_readItem 3 none ∈ Gw := gw_at 625 (by decide +kernel) rfl
theorem gw_624 : Cond.instanceMethod yX1_readItem ∈ Gw := gw_at 624 (by decide +kernel) rfl
theorem gw_11 : Cond.selects RX1 yX1_readItem yX1_readItem ∈ Gw := gw_at 11 (by decide +kernel) rfl
theorem gw_610 : Cond.code yX1_readItems cX1_readItems 3 (some .int) ∈ Gw := gw_at 610 (by decide +kernel) rfl
theorem gw_608 : Cond.instanceMethod yX1_readItems ∈ Gw := gw_at 608 (by decide +kernel) rfl
theorem gw_609 : Cond.selects RX1 yX1_readItems yX1_readItems ∈ Gw := gw_at 609 (by decide +kernel) rfl
theorem gw_507 : Cond.code yX2_takeFrom cX2_takeFrom 2 none ∈ Gw := gw_at 507 (by decide +kernel) rfl
theorem gw_505 : Cond.instanceMethod yX2_takeFrom ∈ Gw := gw_at 505 (by decide +kernel) rfl
theorem gw_506 : Cond.selects RX2 yX2_takeFrom yX2_takeFrom ∈ Gw := gw_at 506 (by decide +kernel) rfl
theorem gw_72 : Cond.initialized RX2 ∈ Gw := gw_at 72 (by decide +kernel) rfl
theorem gw_102 : Cond.code yJ7_fill_53178 cJ7_fill_53178 4 none ∈ Gw := gw_at 102 (by decide +kernel) rfl
theorem gw_101 : Cond.static yJ7_fill_53178 ∈ Gw := gw_at 101 (by decide +kernel) rfl
theorem gw_500 : Cond.code yX3_takeFrom cX3_takeFrom 3 none ∈ Gw := gw_at 500 (by decide +kernel) rfl
theorem gw_498 : Cond.instanceMethod yX3_takeFrom ∈ Gw := gw_at 498 (by decide +kernel) rfl
theorem gw_499 : Cond.selects RX3 yX3_takeFrom yX3_takeFrom ∈ Gw := gw_at 499 (by decide +kernel) rfl
theorem gw_350 : Cond.code yX3_walkersAt cX3_walkersAt 5 (some .int) ∈ Gw := gw_at 350 (by decide +kernel) rfl
theorem gw_348 : Cond.instanceMethod yX3_walkersAt ∈ Gw := gw_at 348 (by decide +kernel) rfl
theorem gw_349 : Cond.selects RX3 yX3_walkersAt yX3_walkersAt ∈ Gw := gw_at 349 (by decide +kernel) rfl
theorem gw_488 : Cond.code yX3_awakeCount cX3_awakeCount 3 (some .int) ∈ Gw := gw_at 488 (by decide +kernel) rfl
theorem gw_486 : Cond.instanceMethod yX3_awakeCount ∈ Gw := gw_at 486 (by decide +kernel) rfl
theorem gw_487 : Cond.selects RX3 yX3_awakeCount yX3_awakeCount ∈ Gw := gw_at 487 (by decide +kernel) rfl
theorem gw_492 : Cond.code yX3_riverCount cX3_riverCount 3 (some .int) ∈ Gw := gw_at 492 (by decide +kernel) rfl
theorem gw_490 : Cond.instanceMethod yX3_riverCount ∈ Gw := gw_at 490 (by decide +kernel) rfl
theorem gw_491 : Cond.selects RX3 yX3_riverCount yX3_riverCount ∈ Gw := gw_at 491 (by decide +kernel) rfl
theorem gw_476 : Cond.code yX3_homeCount cX3_homeCount 3 (some .int) ∈ Gw := gw_at 476 (by decide +kernel) rfl
theorem gw_474 : Cond.instanceMethod yX3_homeCount ∈ Gw := gw_at 474 (by decide +kernel) rfl
theorem gw_475 : Cond.selects RX3 yX3_homeCount yX3_homeCount ∈ Gw := gw_at 475 (by decide +kernel) rfl
theorem gw_397 : Cond.code yX3_waysFrom cX3_waysFrom 3 (some .int) ∈ Gw := gw_at 397 (by decide +kernel) rfl
theorem gw_395 : Cond.instanceMethod yX3_waysFrom ∈ Gw := gw_at 395 (by decide +kernel) rfl
theorem gw_396 : Cond.selects RX3 yX3_waysFrom yX3_waysFrom ∈ Gw := gw_at 396 (by decide +kernel) rfl
theorem gw_435 : Cond.code yX3_plainStep cX3_plainStep 4 (some .int) ∈ Gw := gw_at 435 (by decide +kernel) rfl
theorem gw_434 : Cond.static yX3_plainStep ∈ Gw := gw_at 434 (by decide +kernel) rfl
theorem gw_432 : Cond.code yX3_slopeStep cX3_slopeStep 7 (some .int) ∈ Gw := gw_at 432 (by decide +kernel) rfl
theorem gw_430 : Cond.instanceMethod yX3_slopeStep ∈ Gw := gw_at 430 (by decide +kernel) rfl
theorem gw_431 : Cond.selects RX3 yX3_slopeStep yX3_slopeStep ∈ Gw := gw_at 431 (by decide +kernel) rfl
theorem gw_439 : Cond.code yX3_lampStep cX3_lampStep 6 (some .int) ∈ Gw := gw_at 439 (by decide +kernel) rfl
theorem gw_437 : Cond.instanceMethod yX3_lampStep ∈ Gw := gw_at 437 (by decide +kernel) rfl
theorem gw_438 : Cond.selects RX3 yX3_lampStep yX3_lampStep ∈ Gw := gw_at 438 (by decide +kernel) rfl
theorem gw_446 : Cond.code yJ6_bitCount_0f7a4 cJ6_bitCount_0f7a4 1 (some .int) ∈ Gw := gw_at 446 (by decide +kernel) rfl
theorem gw_445 : Cond.static yJ6_bitCount_0f7a4 ∈ Gw := gw_at 445 (by decide +kernel) rfl
theorem gw_77 : Cond.initialized RJ6 ∈ Gw := gw_at 77 (by decide +kernel) rfl
theorem gw_443 : Cond.code yX3_drawnStep cX3_drawnStep 5 (some .int) ∈ Gw := gw_at 443 (by decide +kernel) rfl
theorem gw_441 : Cond.instanceMethod yX3_drawnStep ∈ Gw := gw_at 441 (by decide +kernel) rfl
theorem gw_442 : Cond.selects RX3 yX3_drawnStep yX3_drawnStep ∈ Gw := gw_at 442 (by decide +kernel) rfl
theorem gw_427 : Cond.code yX3_stepOf cX3_stepOf 3 (some .int) ∈ Gw := gw_at 427 (by decide +kernel) rfl
theorem gw_425 : Cond.instanceMethod yX3_stepOf ∈ Gw := gw_at 425 (by decide +kernel) rfl
theorem gw_426 : Cond.selects RX3 yX3_stepOf yX3_stepOf ∈ Gw := gw_at 426 (by decide +kernel) rfl
theorem gw_467 : Cond.code yX3_goMinute cX3_goMinute 6 (some .int) ∈ Gw := gw_at 467 (by decide +kernel) rfl
theorem gw_465 : Cond.instanceMethod yX3_goMinute ∈ Gw := gw_at 465 (by decide +kernel) rfl
theorem gw_466 : Cond.selects RX3 yX3_goMinute yX3_goMinute ∈ Gw := gw_at 466 (by decide +kernel) rfl
theorem gw_463 : Cond.code yX3_goMinutes cX3_goMinutes 4 (some .int) ∈ Gw := gw_at 463 (by decide +kernel) rfl
theorem gw_461 : Cond.instanceMethod yX3_goMinutes ∈ Gw := gw_at 461 (by decide +kernel) rfl
theorem gw_462 : Cond.selects RX3 yX3_goMinutes yX3_goMinutes ∈ Gw := gw_at 462 (by decide +kernel) rfl
theorem gw_301 : Cond.code yX4_tell cX4_tell 3 (some .int) ∈ Gw := gw_at 301 (by decide +kernel) rfl
theorem gw_300 : Cond.instanceMethod yX4_tell ∈ Gw := gw_at 300 (by decide +kernel) rfl
theorem gw_0 : Cond.selects RX4 yX4_tell yX4_tell ∈ Gw := gw_at 0 (by decide +kernel) rfl
theorem gw_278 : Cond.code yX4_door cX4_door 5 (some .int) ∈ Gw := gw_at 278 (by decide +kernel) rfl
theorem gw_276 : Cond.instanceMethod yX4_door ∈ Gw := gw_at 276 (by decide +kernel) rfl
theorem gw_277 : Cond.selects RX4 yX4_door yX4_door ∈ Gw := gw_at 277 (by decide +kernel) rfl
theorem gw_314 : Cond.code yX4_isOpen cX4_isOpen 4 (some .int) ∈ Gw := gw_at 314 (by decide +kernel) rfl
theorem gw_312 : Cond.instanceMethod yX4_isOpen ∈ Gw := gw_at 312 (by decide +kernel) rfl
theorem gw_313 : Cond.selects RX4 yX4_isOpen yX4_isOpen ∈ Gw := gw_at 313 (by decide +kernel) rfl
theorem gw_319 : Cond.code yX4_height cX4_height 4 (some .int) ∈ Gw := gw_at 319 (by decide +kernel) rfl
theorem gw_317 : Cond.instanceMethod yX4_height ∈ Gw := gw_at 317 (by decide +kernel) rfl
theorem gw_318 : Cond.selects RX4 yX4_height yX4_height ∈ Gw := gw_at 318 (by decide +kernel) rfl
theorem gw_324 : Cond.code yX4_mark cX4_mark 5 (some .int) ∈ Gw := gw_at 324 (by decide +kernel) rfl
theorem gw_322 : Cond.instanceMethod yX4_mark ∈ Gw := gw_at 322 (by decide +kernel) rfl
theorem gw_323 : Cond.selects RX4 yX4_mark yX4_mark ∈ Gw := gw_at 323 (by decide +kernel) rfl
theorem gw_344 : Cond.code yX4_squareOf cX4_squareOf 3 (some .int) ∈ Gw := gw_at 344 (by decide +kernel) rfl
theorem gw_342 : Cond.instanceMethod yX4_squareOf ∈ Gw := gw_at 342 (by decide +kernel) rfl
theorem gw_343 : Cond.selects RX4 yX4_squareOf yX4_squareOf ∈ Gw := gw_at 343 (by decide +kernel) rfl
theorem gw_354 : Cond.code yX4_moon cX4_moon 3 (some .int) ∈ Gw := gw_at 354 (by decide +kernel) rfl
theorem gw_352 : Cond.instanceMethod yX4_moon ∈ Gw := gw_at 352 (by decide +kernel) rfl
theorem gw_353 : Cond.selects RX4 yX4_moon yX4_moon ∈ Gw := gw_at 353 (by decide +kernel) rfl
theorem gw_358 : Cond.code yX4_round cX4_round 2 (some .int) ∈ Gw := gw_at 358 (by decide +kernel) rfl
theorem gw_356 : Cond.instanceMethod yX4_round ∈ Gw := gw_at 356 (by decide +kernel) rfl
theorem gw_357 : Cond.selects RX4 yX4_round yX4_round ∈ Gw := gw_at 357 (by decide +kernel) rfl
theorem gw_367 : Cond.code yX4_rest cX4_rest 2 (some .int) ∈ Gw := gw_at 367 (by decide +kernel) rfl
theorem gw_365 : Cond.instanceMethod yX4_rest ∈ Gw := gw_at 365 (by decide +kernel) rfl
theorem gw_366 : Cond.selects RX4 yX4_rest yX4_rest ∈ Gw := gw_at 366 (by decide +kernel) rfl
theorem gw_378 : Cond.code yX4_isKind cX4_isKind 1 (some .boolean) ∈ Gw := gw_at 378 (by decide +kernel) rfl
theorem gw_377 : Cond.static yX4_isKind ∈ Gw := gw_at 377 (by decide +kernel) rfl
theorem gw_381 : Cond.code yX4_isWay cX4_isWay 1 (some .boolean) ∈ Gw := gw_at 381 (by decide +kernel) rfl
theorem gw_380 : Cond.static yX4_isWay ∈ Gw := gw_at 380 (by decide +kernel) rfl
theorem gw_375 : Cond.code yX4_walker cX4_walker 4 (some .int) ∈ Gw := gw_at 375 (by decide +kernel) rfl
theorem gw_373 : Cond.instanceMethod yX4_walker ∈ Gw := gw_at 373 (by decide +kernel) rfl
theorem gw_374 : Cond.selects RX4 yX4_walker yX4_walker ∈ Gw := gw_at 374 (by decide +kernel) rfl
theorem gw_393 : Cond.code yX4_isWalker cX4_isWalker 2 (some .boolean) ∈ Gw := gw_at 393 (by decide +kernel) rfl
theorem gw_392 : Cond.instanceMethod yX4_isWalker ∈ Gw := gw_at 392 (by decide +kernel) rfl
theorem gw_1 : Cond.selects RX4 yX4_isWalker yX4_isWalker ∈ Gw := gw_at 1 (by decide +kernel) rfl
theorem gw_389 : Cond.code yX4_of cX4_of 4 (some .int) ∈ Gw := gw_at 389 (by decide +kernel) rfl
theorem gw_387 : Cond.instanceMethod yX4_of ∈ Gw := gw_at 387 (by decide +kernel) rfl
theorem gw_388 : Cond.selects RX4 yX4_of yX4_of ∈ Gw := gw_at 388 (by decide +kernel) rfl
theorem gw_401 : Cond.code yX4_set cX4_set 6 (some .int) ∈ Gw := gw_at 401 (by decide +kernel) rfl
theorem gw_399 : Cond.instanceMethod yX4_set ∈ Gw := gw_at 399 (by decide +kernel) rfl
theorem gw_400 : Cond.selects RX4 yX4_set yX4_set ∈ Gw := gw_at 400 (by decide +kernel) rfl
theorem gw_405 : Cond.code yX4_wake cX4_wake 5 (some .int) ∈ Gw := gw_at 405 (by decide +kernel) rfl
theorem gw_403 : Cond.instanceMethod yX4_wake ∈ Gw := gw_at 403 (by decide +kernel) rfl
theorem gw_404 : Cond.selects RX4 yX4_wake yX4_wake ∈ Gw := gw_at 404 (by decide +kernel) rfl
theorem gw_409 : Cond.code yX4_turn cX4_turn 5 (some .int) ∈ Gw := gw_at 409 (by decide +kernel) rfl
theorem gw_407 : Cond.instanceMethod yX4_turn ∈ Gw := gw_at 407 (by decide +kernel) rfl
theorem gw_408 : Cond.selects RX4 yX4_turn yX4_turn ∈ Gw := gw_at 408 (by decide +kernel) rfl
theorem gw_416 : Cond.code yX4_isUnder cX4_isUnder 4 (some .boolean) ∈ Gw := gw_at 416 (by decide +kernel) rfl
theorem gw_415 : Cond.static yX4_isUnder ∈ Gw := gw_at 415 (by decide +kernel) rfl
theorem gw_413 : Cond.code yX4_as cX4_as 4 (some .int) ∈ Gw := gw_at 413 (by decide +kernel) rfl
theorem gw_411 : Cond.instanceMethod yX4_as ∈ Gw := gw_at 411 (by decide +kernel) rfl
theorem gw_412 : Cond.selects RX4 yX4_as yX4_as ∈ Gw := gw_at 412 (by decide +kernel) rfl
theorem gw_423 : Cond.code yX4_step cX4_step 4 (some .int) ∈ Gw := gw_at 423 (by decide +kernel) rfl
theorem gw_421 : Cond.instanceMethod yX4_step ∈ Gw := gw_at 421 (by decide +kernel) rfl
theorem gw_422 : Cond.selects RX4 yX4_step yX4_step ∈ Gw := gw_at 422 (by decide +kernel) rfl
theorem gw_458 : Cond.code yX4_isTooLate cX4_isTooLate 2 (some .boolean) ∈ Gw := gw_at 458 (by decide +kernel) rfl
theorem gw_457 : Cond.instanceMethod yX4_isTooLate ∈ Gw := gw_at 457 (by decide +kernel) rfl
theorem gw_2 : Cond.selects RX4 yX4_isTooLate yX4_isTooLate ∈ Gw := gw_at 2 (by decide +kernel) rfl
theorem gw_454 : Cond.code yX4_minutes cX4_minutes 2 (some .int) ∈ Gw := gw_at 454 (by decide +kernel) rfl
theorem gw_452 : Cond.instanceMethod yX4_minutes ∈ Gw := gw_at 452 (by decide +kernel) rfl
theorem gw_453 : Cond.selects RX4 yX4_minutes yX4_minutes ∈ Gw := gw_at 453 (by decide +kernel) rfl
theorem gw_472 : Cond.code yX4_bed cX4_bed 4 (some .int) ∈ Gw := gw_at 472 (by decide +kernel) rfl
theorem gw_470 : Cond.instanceMethod yX4_bed ∈ Gw := gw_at 470 (by decide +kernel) rfl
theorem gw_471 : Cond.selects RX4 yX4_bed yX4_bed ∈ Gw := gw_at 471 (by decide +kernel) rfl
theorem gw_480 : Cond.code yX4_seed cX4_seed 3 (some .int) ∈ Gw := gw_at 480 (by decide +kernel) rfl
theorem gw_478 : Cond.instanceMethod yX4_seed ∈ Gw := gw_at 478 (by decide +kernel) rfl
theorem gw_479 : Cond.selects RX4 yX4_seed yX4_seed ∈ Gw := gw_at 479 (by decide +kernel) rfl
theorem gw_484 : Cond.code yX4_now cX4_now 2 (some .int) ∈ Gw := gw_at 484 (by decide +kernel) rfl
theorem gw_482 : Cond.instanceMethod yX4_now ∈ Gw := gw_at 482 (by decide +kernel) rfl
theorem gw_483 : Cond.selects RX4 yX4_now yX4_now ∈ Gw := gw_at 483 (by decide +kernel) rfl
theorem gw_496 : Cond.code yX4_on cX4_on 3 (some .int) ∈ Gw := gw_at 496 (by decide +kernel) rfl
theorem gw_494 : Cond.instanceMethod yX4_on ∈ Gw := gw_at 494 (by decide +kernel) rfl
theorem gw_495 : Cond.selects RX4 yX4_on yX4_on ∈ Gw := gw_at 495 (by decide +kernel) rfl
theorem gw_511 : Cond.code yX4_river cX4_river 4 (some .int) ∈ Gw := gw_at 511 (by decide +kernel) rfl
theorem gw_509 : Cond.instanceMethod yX4_river ∈ Gw := gw_at 509 (by decide +kernel) rfl
theorem gw_510 : Cond.selects RX4 yX4_river yX4_river ∈ Gw := gw_at 510 (by decide +kernel) rfl
theorem gw_517 : Cond.code yX4_meet cX4_meet 4 (some .int) ∈ Gw := gw_at 517 (by decide +kernel) rfl
theorem gw_515 : Cond.instanceMethod yX4_meet ∈ Gw := gw_at 515 (by decide +kernel) rfl
theorem gw_516 : Cond.selects RX4 yX4_meet yX4_meet ∈ Gw := gw_at 516 (by decide +kernel) rfl
theorem gw_521 : Cond.code yX4_home cX4_home 4 (some .int) ∈ Gw := gw_at 521 (by decide +kernel) rfl
theorem gw_519 : Cond.instanceMethod yX4_home ∈ Gw := gw_at 519 (by decide +kernel) rfl
theorem gw_520 : Cond.selects RX4 yX4_home yX4_home ∈ Gw := gw_at 520 (by decide +kernel) rfl
theorem gw_529 : Cond.code yX4_isSafe cX4_isSafe 5 (some .boolean) ∈ Gw := gw_at 529 (by decide +kernel) rfl
theorem gw_528 : Cond.instanceMethod yX4_isSafe ∈ Gw := gw_at 528 (by decide +kernel) rfl
theorem gw_3 : Cond.selects RX4 yX4_isSafe yX4_isSafe ∈ Gw := gw_at 3 (by decide +kernel) rfl
theorem gw_525 : Cond.code yX4_safe cX4_safe 2 (some .int) ∈ Gw := gw_at 525 (by decide +kernel) rfl
theorem gw_523 : Cond.instanceMethod yX4_safe ∈ Gw := gw_at 523 (by decide +kernel) rfl
theorem gw_524 : Cond.selects RX4 yX4_safe yX4_safe ∈ Gw := gw_at 524 (by decide +kernel) rfl
theorem gw_537 : Cond.code yX4_findBanks cX4_findBanks 6 (some .int) ∈ Gw := gw_at 537 (by decide +kernel) rfl
theorem gw_536 : Cond.instanceMethod yX4_findBanks ∈ Gw := gw_at 536 (by decide +kernel) rfl
theorem gw_4 : Cond.selects RX4 yX4_findBanks yX4_findBanks ∈ Gw := gw_at 4 (by decide +kernel) rfl
theorem gw_548 : Cond.code yX4_doorsOf cX4_doorsOf 6 (some .long) ∈ Gw := gw_at 548 (by decide +kernel) rfl
theorem gw_547 : Cond.instanceMethod yX4_doorsOf ∈ Gw := gw_at 547 (by decide +kernel) rfl
theorem gw_6 : Cond.selects RX4 yX4_doorsOf yX4_doorsOf ∈ Gw := gw_at 6 (by decide +kernel) rfl
theorem gw_543 : Cond.code yX4_leastBars cX4_leastBars 5 (some .int) ∈ Gw := gw_at 543 (by decide +kernel) rfl
theorem gw_542 : Cond.instanceMethod yX4_leastBars ∈ Gw := gw_at 542 (by decide +kernel) rfl
theorem gw_5 : Cond.selects RX4 yX4_leastBars yX4_leastBars ∈ Gw := gw_at 5 (by decide +kernel) rfl
theorem gw_533 : Cond.code yX4_barred cX4_barred 5 (some .int) ∈ Gw := gw_at 533 (by decide +kernel) rfl
theorem gw_531 : Cond.instanceMethod yX4_barred ∈ Gw := gw_at 531 (by decide +kernel) rfl
theorem gw_532 : Cond.selects RX4 yX4_barred yX4_barred ∈ Gw := gw_at 532 (by decide +kernel) rfl
theorem gw_556 : Cond.code yX4_placesWithLamps cX4_placesWithLamps 6 (some .long) ∈ Gw := gw_at 556 (by decide +kernel) rfl
theorem gw_555 : Cond.instanceMethod yX4_placesWithLamps ∈ Gw := gw_at 555 (by decide +kernel) rfl
theorem gw_7 : Cond.selects RX4 yX4_placesWithLamps yX4_placesWithLamps ∈ Gw := gw_at 7 (by decide +kernel) rfl
theorem gw_559 : Cond.code yX4_countOthers cX4_countOthers 6 (some .int) ∈ Gw := gw_at 559 (by decide +kernel) rfl
theorem gw_558 : Cond.static yX4_countOthers ∈ Gw := gw_at 558 (by decide +kernel) rfl
theorem gw_552 : Cond.code yX4_lamp cX4_lamp 8 (some .int) ∈ Gw := gw_at 552 (by decide +kernel) rfl
theorem gw_550 : Cond.instanceMethod yX4_lamp ∈ Gw := gw_at 550 (by decide +kernel) rfl
theorem gw_551 : Cond.selects RX4 yX4_lamp yX4_lamp ∈ Gw := gw_at 551 (by decide +kernel) rfl
theorem gw_564 : Cond.code yX4_watch cX4_watch 6 (some .int) ∈ Gw := gw_at 564 (by decide +kernel) rfl
theorem gw_562 : Cond.instanceMethod yX4_watch ∈ Gw := gw_at 562 (by decide +kernel) rfl
theorem gw_563 : Cond.selects RX4 yX4_watch yX4_watch ∈ Gw := gw_at 563 (by decide +kernel) rfl
theorem gw_568 : Cond.code yX4_loop cX4_loop 7 (some .int) ∈ Gw := gw_at 568 (by decide +kernel) rfl
theorem gw_566 : Cond.instanceMethod yX4_loop ∈ Gw := gw_at 566 (by decide +kernel) rfl
theorem gw_567 : Cond.selects RX4 yX4_loop yX4_loop ∈ Gw := gw_at 567 (by decide +kernel) rfl
theorem gw_584 : Cond.code yX4_spreadFrom cX4_spreadFrom 7 none ∈ Gw := gw_at 584 (by decide +kernel) rfl
theorem gw_583 : Cond.instanceMethod yX4_spreadFrom ∈ Gw := gw_at 583 (by decide +kernel) rfl
theorem gw_9 : Cond.selects RX4 yX4_spreadFrom yX4_spreadFrom ∈ Gw := gw_at 9 (by decide +kernel) rfl
theorem gw_577 : Cond.code yX4_spreadOdds cX4_spreadOdds 5 none ∈ Gw := gw_at 577 (by decide +kernel) rfl
theorem gw_576 : Cond.instanceMethod yX4_spreadOdds ∈ Gw := gw_at 576 (by decide +kernel) rfl
theorem gw_8 : Cond.selects RX4 yX4_spreadOdds yX4_spreadOdds ∈ Gw := gw_at 8 (by decide +kernel) rfl
theorem gw_573 : Cond.code yX4_odds cX4_odds 4 (some .long) ∈ Gw := gw_at 573 (by decide +kernel) rfl
theorem gw_571 : Cond.instanceMethod yX4_odds ∈ Gw := gw_at 571 (by decide +kernel) rfl
theorem gw_572 : Cond.selects RX4 yX4_odds yX4_odds ∈ Gw := gw_at 572 (by decide +kernel) rfl
theorem gw_590 : Cond.code yX4_likeliest cX4_likeliest 5 (some .int) ∈ Gw := gw_at 590 (by decide +kernel) rfl
theorem gw_588 : Cond.instanceMethod yX4_likeliest ∈ Gw := gw_at 588 (by decide +kernel) rfl
theorem gw_589 : Cond.selects RX4 yX4_likeliest yX4_likeliest ∈ Gw := gw_at 589 (by decide +kernel) rfl
theorem gw_594 : Cond.code yX4_feed cX4_feed 4 (some .int) ∈ Gw := gw_at 594 (by decide +kernel) rfl
theorem gw_592 : Cond.instanceMethod yX4_feed ∈ Gw := gw_at 592 (by decide +kernel) rfl
theorem gw_593 : Cond.selects RX4 yX4_feed yX4_feed ∈ Gw := gw_at 593 (by decide +kernel) rfl
theorem gw_602 : Cond.code yX4_wipe cX4_wipe 2 (some .int) ∈ Gw := gw_at 602 (by decide +kernel) rfl
theorem gw_600 : Cond.instanceMethod yX4_wipe ∈ Gw := gw_at 600 (by decide +kernel) rfl
theorem gw_601 : Cond.selects RX4 yX4_wipe yX4_wipe ∈ Gw := gw_at 601 (by decide +kernel) rfl
theorem gw_606 : Cond.code yX4_ward cX4_ward 2 (some .int) ∈ Gw := gw_at 606 (by decide +kernel) rfl
theorem gw_604 : Cond.instanceMethod yX4_ward ∈ Gw := gw_at 604 (by decide +kernel) rfl
theorem gw_605 : Cond.selects RX4 yX4_ward yX4_ward ∈ Gw := gw_at 605 (by decide +kernel) rfl
theorem gw_742 : Cond.code yX4_isSheet cX4_isSheet 1 (some .boolean) ∈ Gw := gw_at 742 (by decide +kernel) rfl
theorem gw_741 : Cond.static yX4_isSheet ∈ Gw := gw_at 741 (by decide +kernel) rfl
theorem gw_739 : Cond.code yX4_sheet cX4_sheet 4 (some .int) ∈ Gw := gw_at 739 (by decide +kernel) rfl
theorem gw_737 : Cond.instanceMethod yX4_sheet ∈ Gw := gw_at 737 (by decide +kernel) rfl
theorem gw_738 : Cond.selects RX4 yX4_sheet yX4_sheet ∈ Gw := gw_at 738 (by decide +kernel) rfl
theorem gw_751 : Cond.code yX4_write cX4_write 8 (some .long) ∈ Gw := gw_at 751 (by decide +kernel) rfl
theorem gw_749 : Cond.instanceMethod yX4_write ∈ Gw := gw_at 749 (by decide +kernel) rfl
theorem gw_750 : Cond.selects RX4 yX4_write yX4_write ∈ Gw := gw_at 750 (by decide +kernel) rfl
theorem gw_764 : Cond.code yX4_copy cX4_copy 8 (some .int) ∈ Gw := gw_at 764 (by decide +kernel) rfl
theorem gw_762 : Cond.instanceMethod yX4_copy ∈ Gw := gw_at 762 (by decide +kernel) rfl
theorem gw_763 : Cond.selects RX4 yX4_copy yX4_copy ∈ Gw := gw_at 763 (by decide +kernel) rfl
theorem gw_772 : Cond.code yX4_lays cX4_lays 7 (some .int) ∈ Gw := gw_at 772 (by decide +kernel) rfl
theorem gw_770 : Cond.instanceMethod yX4_lays ∈ Gw := gw_at 770 (by decide +kernel) rfl
theorem gw_771 : Cond.selects RX4 yX4_lays yX4_lays ∈ Gw := gw_at 771 (by decide +kernel) rfl
theorem gw_777 : Cond.code yX4_track cX4_track 5 (some .int) ∈ Gw := gw_at 777 (by decide +kernel) rfl
theorem gw_775 : Cond.instanceMethod yX4_track ∈ Gw := gw_at 775 (by decide +kernel) rfl
theorem gw_776 : Cond.selects RX4 yX4_track yX4_track ∈ Gw := gw_at 776 (by decide +kernel) rfl
theorem gw_781 : Cond.code yX4_whose cX4_whose 5 (some .int) ∈ Gw := gw_at 781 (by decide +kernel) rfl
theorem gw_779 : Cond.instanceMethod yX4_whose ∈ Gw := gw_at 779 (by decide +kernel) rfl
theorem gw_780 : Cond.selects RX4 yX4_whose yX4_whose ∈ Gw := gw_at 780 (by decide +kernel) rfl
theorem gw_785 : Cond.code yX4_image cX4_image 1 (some .int) ∈ Gw := gw_at 785 (by decide +kernel) rfl
theorem gw_783 : Cond.instanceMethod yX4_image ∈ Gw := gw_at 783 (by decide +kernel) rfl
theorem gw_784 : Cond.selects RX4 yX4_image yX4_image ∈ Gw := gw_at 784 (by decide +kernel) rfl
theorem gw_789 : Cond.code yX4_undo cX4_undo 1 (some .int) ∈ Gw := gw_at 789 (by decide +kernel) rfl
theorem gw_787 : Cond.instanceMethod yX4_undo ∈ Gw := gw_at 787 (by decide +kernel) rfl
theorem gw_788 : Cond.selects RX4 yX4_undo yX4_undo ∈ Gw := gw_at 788 (by decide +kernel) rfl
theorem gw_793 : Cond.code yX4_tear cX4_tear 2 (some .int) ∈ Gw := gw_at 793 (by decide +kernel) rfl
theorem gw_791 : Cond.instanceMethod yX4_tear ∈ Gw := gw_at 791 (by decide +kernel) rfl
theorem gw_792 : Cond.selects RX4 yX4_tear yX4_tear ∈ Gw := gw_at 792 (by decide +kernel) rfl
theorem gw_800 : Cond.code yJ13_bitCount_95d88 cJ13_bitCount_95d88 2 (some .int) ∈ Gw := gw_at 800 (by decide +kernel) rfl
theorem gw_799 : Cond.static yJ13_bitCount_95d88 ∈ Gw := gw_at 799 (by decide +kernel) rfl
theorem gw_83 : Cond.initialized RJ13 ∈ Gw := gw_at 83 (by decide +kernel) rfl
theorem gw_797 : Cond.code yX4_count cX4_count 2 (some .int) ∈ Gw := gw_at 797 (by decide +kernel) rfl
theorem gw_795 : Cond.instanceMethod yX4_count ∈ Gw := gw_at 795 (by decide +kernel) rfl
theorem gw_796 : Cond.selects RX4 yX4_count yX4_count ∈ Gw := gw_at 796 (by decide +kernel) rfl
theorem gw_807 : Cond.code yX4_status cX4_status 2 (some .int) ∈ Gw := gw_at 807 (by decide +kernel) rfl
theorem gw_805 : Cond.instanceMethod yX4_status ∈ Gw := gw_at 805 (by decide +kernel) rfl
theorem gw_806 : Cond.selects RX4 yX4_status yX4_status ∈ Gw := gw_at 806 (by decide +kernel) rfl
theorem gw_885 : Cond.code yX5_in cX5_in 3 (some .boolean) ∈ Gw := gw_at 885 (by decide +kernel) rfl
theorem gw_884 : Cond.static yX5_in ∈ Gw := gw_at 884 (by decide +kernel) rfl
theorem gw_75 : Cond.initialized RX5 ∈ Gw := gw_at 75 (by decide +kernel) rfl
theorem gw_898 : Cond.code yX5_no cX5_no 2 (some .int) ∈ Gw := gw_at 898 (by decide +kernel) rfl
theorem gw_897 : Cond.instanceMethod yX5_no ∈ Gw := gw_at 897 (by decide +kernel) rfl
theorem gw_22 : Cond.selects RX5 yX5_no yX5_no ∈ Gw := gw_at 22 (by decide +kernel) rfl
theorem gw_1079 : Cond.code yX5_lay cX5_lay 3 none ∈ Gw := gw_at 1079 (by decide +kernel) rfl
theorem gw_1078 : Cond.static yX5_lay ∈ Gw := gw_at 1078 (by decide +kernel) rfl
theorem gw_1020 : Cond.code yX5_draw cX5_draw 1 (some .int) ∈ Gw := gw_at 1020 (by decide +kernel) rfl
theorem gw_1019 : Cond.instanceMethod yX5_draw ∈ Gw := gw_at 1019 (by decide +kernel) rfl
theorem gw_36 : Cond.selects RX5 yX5_draw yX5_draw ∈ Gw := gw_at 36 (by decide +kernel) rfl
theorem gw_882 : Cond.code yX5_isSquare cX5_isSquare 1 (some .boolean) ∈ Gw := gw_at 882 (by decide +kernel) rfl
theorem gw_881 : Cond.static yX5_isSquare ∈ Gw := gw_at 881 (by decide +kernel) rfl
theorem gw_949 : Cond.code yX5_isWay cX5_isWay 1 (some .boolean) ∈ Gw := gw_at 949 (by decide +kernel) rfl
theorem gw_948 : Cond.static yX5_isWay ∈ Gw := gw_at 948 (by decide +kernel) rfl
theorem gw_965 : Cond.code yX5_isWalker cX5_isWalker 2 (some .boolean) ∈ Gw := gw_at 965 (by decide +kernel) rfl
theorem gw_964 : Cond.instanceMethod yX5_isWalker ∈ Gw := gw_at 964 (by decide +kernel) rfl
theorem gw_28 : Cond.selects RX5 yX5_isWalker yX5_isWalker ∈ Gw := gw_at 28 (by decide +kernel) rfl
theorem gw_927 : Cond.code yX5_has cX5_has 3 (some .int) ∈ Gw := gw_at 927 (by decide +kernel) rfl
theorem gw_926 : Cond.instanceMethod yX5_has ∈ Gw := gw_at 926 (by decide +kernel) rfl
theorem gw_25 : Cond.selects RX5 yX5_has yX5_has ∈ Gw := gw_at 25 (by decide +kernel) rfl
theorem gw_957 : Cond.code yX5_gets cX5_gets 5 (some .int) ∈ Gw := gw_at 957 (by decide +kernel) rfl
theorem gw_956 : Cond.instanceMethod yX5_gets ∈ Gw := gw_at 956 (by decide +kernel) rfl
theorem gw_27 : Cond.selects RX5 yX5_gets yX5_gets ∈ Gw := gw_at 27 (by decide +kernel) rfl
theorem gw_903 : Cond.code yX5_puts cX5_puts 4 (some .int) ∈ Gw := gw_at 903 (by decide +kernel) rfl
theorem gw_902 : Cond.instanceMethod yX5_puts ∈ Gw := gw_at 902 (by decide +kernel) rfl
theorem gw_23 : Cond.selects RX5 yX5_puts yX5_puts ∈ Gw := gw_at 23 (by decide +kernel) rfl
theorem gw_891 : Cond.code yX5_beside cX5_beside 2 (some .int) ∈ Gw := gw_at 891 (by decide +kernel) rfl
theorem gw_890 : Cond.static yX5_beside ∈ Gw := gw_at 890 (by decide +kernel) rfl
theorem gw_894 : Cond.code yX5_doorAt cX5_doorAt 2 (some .int) ∈ Gw := gw_at 894 (by decide +kernel) rfl
theorem gw_893 : Cond.static yX5_doorAt ∈ Gw := gw_at 893 (by decide +kernel) rfl
theorem gw_888 : Cond.code yX5_wayTo cX5_wayTo 3 (some .int) ∈ Gw := gw_at 888 (by decide +kernel) rfl
theorem gw_887 : Cond.static yX5_wayTo ∈ Gw := gw_at 887 (by decide +kernel) rfl
theorem gw_973 : Cond.code yX5_may cX5_may 3 (some .boolean) ∈ Gw := gw_at 973 (by decide +kernel) rfl
theorem gw_972 : Cond.instanceMethod yX5_may ∈ Gw := gw_at 972 (by decide +kernel) rfl
theorem gw_30 : Cond.selects RX5 yX5_may yX5_may ∈ Gw := gw_at 30 (by decide +kernel) rfl
theorem gw_879 : Cond.code yX5_doorOf cX5_doorOf 4 (some .int) ∈ Gw := gw_at 879 (by decide +kernel) rfl
theorem gw_878 : Cond.instanceMethod yX5_doorOf ∈ Gw := gw_at 878 (by decide +kernel) rfl
theorem gw_21 : Cond.selects RX5 yX5_doorOf yX5_doorOf ∈ Gw := gw_at 21 (by decide +kernel) rfl
theorem gw_875 : Cond.code yX5_door cX5_door 6 (some .int) ∈ Gw := gw_at 875 (by decide +kernel) rfl
theorem gw_873 : Cond.instanceMethod yX5_door ∈ Gw := gw_at 873 (by decide +kernel) rfl
theorem gw_874 : Cond.selects RX5 yX5_door yX5_door ∈ Gw := gw_at 874 (by decide +kernel) rfl
theorem gw_907 : Cond.code yX5_isOpen cX5_isOpen 4 (some .int) ∈ Gw := gw_at 907 (by decide +kernel) rfl
theorem gw_905 : Cond.instanceMethod yX5_isOpen ∈ Gw := gw_at 905 (by decide +kernel) rfl
theorem gw_906 : Cond.selects RX5 yX5_isOpen yX5_isOpen ∈ Gw := gw_at 906 (by decide +kernel) rfl
theorem gw_911 : Cond.code yX5_height cX5_height 3 (some .int) ∈ Gw := gw_at 911 (by decide +kernel) rfl
theorem gw_909 : Cond.instanceMethod yX5_height ∈ Gw := gw_at 909 (by decide +kernel) rfl
theorem gw_910 : Cond.selects RX5 yX5_height yX5_height ∈ Gw := gw_at 910 (by decide +kernel) rfl
theorem gw_915 : Cond.code yX5_mark cX5_mark 5 (some .int) ∈ Gw := gw_at 915 (by decide +kernel) rfl
theorem gw_913 : Cond.instanceMethod yX5_mark ∈ Gw := gw_at 913 (by decide +kernel) rfl
theorem gw_914 : Cond.selects RX5 yX5_mark yX5_mark ∈ Gw := gw_at 914 (by decide +kernel) rfl
theorem gw_923 : Cond.code yX5_walkersAt cX5_walkersAt 4 (some .int) ∈ Gw := gw_at 923 (by decide +kernel) rfl
theorem gw_922 : Cond.instanceMethod yX5_walkersAt ∈ Gw := gw_at 922 (by decide +kernel) rfl
theorem gw_24 : Cond.selects RX5 yX5_walkersAt yX5_walkersAt ∈ Gw := gw_at 24 (by decide +kernel) rfl
theorem gw_919 : Cond.code yX5_squareOf cX5_squareOf 3 (some .int) ∈ Gw := gw_at 919 (by decide +kernel) rfl
theorem gw_917 : Cond.instanceMethod yX5_squareOf ∈ Gw := gw_at 917 (by decide +kernel) rfl
theorem gw_918 : Cond.selects RX5 yX5_squareOf yX5_squareOf ∈ Gw := gw_at 918 (by decide +kernel) rfl
theorem gw_931 : Cond.code yX5_moon cX5_moon 2 (some .int) ∈ Gw := gw_at 931 (by decide +kernel) rfl
theorem gw_929 : Cond.instanceMethod yX5_moon ∈ Gw := gw_at 929 (by decide +kernel) rfl
theorem gw_930 : Cond.selects RX5 yX5_moon yX5_moon ∈ Gw := gw_at 930 (by decide +kernel) rfl
theorem gw_935 : Cond.code yX5_round cX5_round 2 (some .int) ∈ Gw := gw_at 935 (by decide +kernel) rfl
theorem gw_933 : Cond.instanceMethod yX5_round ∈ Gw := gw_at 933 (by decide +kernel) rfl
theorem gw_934 : Cond.selects RX5 yX5_round yX5_round ∈ Gw := gw_at 934 (by decide +kernel) rfl
theorem gw_939 : Cond.code yX5_rest cX5_rest 1 (some .int) ∈ Gw := gw_at 939 (by decide +kernel) rfl
theorem gw_937 : Cond.instanceMethod yX5_rest ∈ Gw := gw_at 937 (by decide +kernel) rfl
theorem gw_938 : Cond.selects RX5 yX5_rest yX5_rest ∈ Gw := gw_at 938 (by decide +kernel) rfl
theorem gw_946 : Cond.code yX5_isKind cX5_isKind 1 (some .boolean) ∈ Gw := gw_at 946 (by decide +kernel) rfl
theorem gw_945 : Cond.static yX5_isKind ∈ Gw := gw_at 945 (by decide +kernel) rfl
theorem gw_953 : Cond.code yX5_adds cX5_adds 5 none ∈ Gw := gw_at 953 (by decide +kernel) rfl
theorem gw_952 : Cond.instanceMethod yX5_adds ∈ Gw := gw_at 952 (by decide +kernel) rfl
theorem gw_26 : Cond.selects RX5 yX5_adds yX5_adds ∈ Gw := gw_at 26 (by decide +kernel) rfl
theorem gw_943 : Cond.code yX5_walker cX5_walker 4 (some .int) ∈ Gw := gw_at 943 (by decide +kernel) rfl
theorem gw_941 : Cond.instanceMethod yX5_walker ∈ Gw := gw_at 941 (by decide +kernel) rfl
theorem gw_942 : Cond.selects RX5 yX5_walker yX5_walker ∈ Gw := gw_at 942 (by decide +kernel) rfl
theorem gw_969 : Cond.code yX5_waysFrom cX5_waysFrom 4 (some .int) ∈ Gw := gw_at 969 (by decide +kernel) rfl
theorem gw_968 : Cond.instanceMethod yX5_waysFrom ∈ Gw := gw_at 968 (by decide +kernel) rfl
theorem gw_29 : Cond.selects RX5 yX5_waysFrom yX5_waysFrom ∈ Gw := gw_at 29 (by decide +kernel) rfl
theorem gw_961 : Cond.code yX5_of cX5_of 3 (some .int) ∈ Gw := gw_at 961 (by decide +kernel) rfl
theorem gw_959 : Cond.instanceMethod yX5_of ∈ Gw := gw_at 959 (by decide +kernel) rfl
theorem gw_960 : Cond.selects RX5 yX5_of yX5_of ∈ Gw := gw_at 960 (by decide +kernel) rfl
theorem gw_977 : Cond.code yX5_set cX5_set 4 (some .int) ∈ Gw := gw_at 977 (by decide +kernel) rfl
theorem gw_975 : Cond.instanceMethod yX5_set ∈ Gw := gw_at 975 (by decide +kernel) rfl
theorem gw_976 : Cond.selects RX5 yX5_set yX5_set ∈ Gw := gw_at 976 (by decide +kernel) rfl
theorem gw_981 : Cond.code yX5_wake cX5_wake 4 (some .int) ∈ Gw := gw_at 981 (by decide +kernel) rfl
theorem gw_979 : Cond.instanceMethod yX5_wake ∈ Gw := gw_at 979 (by decide +kernel) rfl
theorem gw_980 : Cond.selects RX5 yX5_wake yX5_wake ∈ Gw := gw_at 980 (by decide +kernel) rfl
theorem gw_985 : Cond.code yX5_turn cX5_turn 3 (some .int) ∈ Gw := gw_at 985 (by decide +kernel) rfl
theorem gw_983 : Cond.instanceMethod yX5_turn ∈ Gw := gw_at 983 (by decide +kernel) rfl
theorem gw_984 : Cond.selects RX5 yX5_turn yX5_turn ∈ Gw := gw_at 984 (by decide +kernel) rfl
theorem gw_992 : Cond.code yX5_isUnder cX5_isUnder 2 (some .boolean) ∈ Gw := gw_at 992 (by decide +kernel) rfl
theorem gw_991 : Cond.static yX5_isUnder ∈ Gw := gw_at 991 (by decide +kernel) rfl
theorem gw_989 : Cond.code yX5_as cX5_as 3 (some .int) ∈ Gw := gw_at 989 (by decide +kernel) rfl
theorem gw_987 : Cond.instanceMethod yX5_as ∈ Gw := gw_at 987 (by decide +kernel) rfl
theorem gw_988 : Cond.selects RX5 yX5_as yX5_as ∈ Gw := gw_at 988 (by decide +kernel) rfl
theorem gw_1004 : Cond.code yX5_turned cX5_turned 6 (some .int) ∈ Gw := gw_at 1004 (by decide +kernel) rfl
theorem gw_1003 : Cond.instanceMethod yX5_turned ∈ Gw := gw_at 1003 (by decide +kernel) rfl
theorem gw_32 : Cond.selects RX5 yX5_turned yX5_turned ∈ Gw := gw_at 32 (by decide +kernel) rfl
theorem gw_1012 : Cond.code yX5_lampStep cX5_lampStep 4 (some .int) ∈ Gw := gw_at 1012 (by decide +kernel) rfl
theorem gw_1011 : Cond.instanceMethod yX5_lampStep ∈ Gw := gw_at 1011 (by decide +kernel) rfl
theorem gw_34 : Cond.selects RX5 yX5_lampStep yX5_lampStep ∈ Gw := gw_at 34 (by decide +kernel) rfl
theorem gw_1008 : Cond.code yX5_slopeStep cX5_slopeStep 6 (some .int) ∈ Gw := gw_at 1008 (by decide +kernel) rfl
theorem gw_1007 : Cond.instanceMethod yX5_slopeStep ∈ Gw := gw_at 1007 (by decide +kernel) rfl
theorem gw_33 : Cond.selects RX5 yX5_slopeStep yX5_slopeStep ∈ Gw := gw_at 33 (by decide +kernel) rfl
theorem gw_1024 : Cond.code yX5_ones cX5_ones 3 (some .int) ∈ Gw := gw_at 1024 (by decide +kernel) rfl
theorem gw_1023 : Cond.static yX5_ones ∈ Gw := gw_at 1023 (by decide +kernel) rfl
theorem gw_1016 : Cond.code yX5_wanderStep cX5_wanderStep 5 (some .int) ∈ Gw := gw_at 1016 (by decide +kernel) rfl
theorem gw_1015 : Cond.instanceMethod yX5_wanderStep ∈ Gw := gw_at 1015 (by decide +kernel) rfl
theorem gw_35 : Cond.selects RX5 yX5_wanderStep yX5_wanderStep ∈ Gw := gw_at 35 (by decide +kernel) rfl
theorem gw_1000 : Cond.code yX5_stepOf cX5_stepOf 4 (some .int) ∈ Gw := gw_at 1000 (by decide +kernel) rfl
theorem gw_999 : Cond.instanceMethod yX5_stepOf ∈ Gw := gw_at 999 (by decide +kernel) rfl
theorem gw_31 : Cond.selects RX5 yX5_stepOf yX5_stepOf ∈ Gw := gw_at 31 (by decide +kernel) rfl
theorem gw_996 : Cond.code yX5_step cX5_step 4 (some .int) ∈ Gw := gw_at 996 (by decide +kernel) rfl
theorem gw_994 : Cond.instanceMethod yX5_step ∈ Gw := gw_at 994 (by decide +kernel) rfl
theorem gw_995 : Cond.selects RX5 yX5_step yX5_step ∈ Gw := gw_at 995 (by decide +kernel) rfl
theorem gw_1040 : Cond.code yX5_isIn cX5_isIn 2 (some .boolean) ∈ Gw := gw_at 1040 (by decide +kernel) rfl
theorem gw_1039 : Cond.instanceMethod yX5_isIn ∈ Gw := gw_at 1039 (by decide +kernel) rfl
theorem gw_39 : Cond.selects RX5 yX5_isIn yX5_isIn ∈ Gw := gw_at 39 (by decide +kernel) rfl
theorem gw_1052 : Cond.code yX5_goes cX5_goes 2 (some .boolean) ∈ Gw := gw_at 1052 (by decide +kernel) rfl
theorem gw_1051 : Cond.instanceMethod yX5_goes ∈ Gw := gw_at 1051 (by decide +kernel) rfl
theorem gw_42 : Cond.selects RX5 yX5_goes yX5_goes ∈ Gw := gw_at 42 (by decide +kernel) rfl
theorem gw_1048 : Cond.code yX5_minute cX5_minute 3 none ∈ Gw := gw_at 1048 (by decide +kernel) rfl
theorem gw_1047 : Cond.instanceMethod yX5_minute ∈ Gw := gw_at 1047 (by decide +kernel) rfl
theorem gw_41 : Cond.selects RX5 yX5_minute yX5_minute ∈ Gw := gw_at 41 (by decide +kernel) rfl
theorem gw_1044 : Cond.code yX5_go cX5_go 3 none ∈ Gw := gw_at 1044 (by decide +kernel) rfl
theorem gw_1043 : Cond.instanceMethod yX5_go ∈ Gw := gw_at 1043 (by decide +kernel) rfl
theorem gw_40 : Cond.selects RX5 yX5_go yX5_go ∈ Gw := gw_at 40 (by decide +kernel) rfl
theorem gw_1036 : Cond.code yX5_inRiver cX5_inRiver 3 (some .int) ∈ Gw := gw_at 1036 (by decide +kernel) rfl
theorem gw_1035 : Cond.instanceMethod yX5_inRiver ∈ Gw := gw_at 1035 (by decide +kernel) rfl
theorem gw_38 : Cond.selects RX5 yX5_inRiver yX5_inRiver ∈ Gw := gw_at 38 (by decide +kernel) rfl
theorem gw_1032 : Cond.code yX5_isLate cX5_isLate 2 (some .boolean) ∈ Gw := gw_at 1032 (by decide +kernel) rfl
theorem gw_1031 : Cond.instanceMethod yX5_isLate ∈ Gw := gw_at 1031 (by decide +kernel) rfl
theorem gw_37 : Cond.selects RX5 yX5_isLate yX5_isLate ∈ Gw := gw_at 37 (by decide +kernel) rfl
theorem gw_1028 : Cond.code yX5_minutes cX5_minutes 3 (some .int) ∈ Gw := gw_at 1028 (by decide +kernel) rfl
theorem gw_1026 : Cond.instanceMethod yX5_minutes ∈ Gw := gw_at 1026 (by decide +kernel) rfl
theorem gw_1027 : Cond.selects RX5 yX5_minutes yX5_minutes ∈ Gw := gw_at 1027 (by decide +kernel) rfl
theorem gw_1060 : Cond.code yX5_homeMany cX5_homeMany 3 (some .int) ∈ Gw := gw_at 1060 (by decide +kernel) rfl
theorem gw_1059 : Cond.instanceMethod yX5_homeMany ∈ Gw := gw_at 1059 (by decide +kernel) rfl
theorem gw_43 : Cond.selects RX5 yX5_homeMany yX5_homeMany ∈ Gw := gw_at 43 (by decide +kernel) rfl
theorem gw_1056 : Cond.code yX5_bed cX5_bed 3 (some .int) ∈ Gw := gw_at 1056 (by decide +kernel) rfl
theorem gw_1054 : Cond.instanceMethod yX5_bed ∈ Gw := gw_at 1054 (by decide +kernel) rfl
theorem gw_1055 : Cond.selects RX5 yX5_bed yX5_bed ∈ Gw := gw_at 1055 (by decide +kernel) rfl
theorem gw_1064 : Cond.code yX5_seed cX5_seed 2 (some .int) ∈ Gw := gw_at 1064 (by decide +kernel) rfl
theorem gw_1062 : Cond.instanceMethod yX5_seed ∈ Gw := gw_at 1062 (by decide +kernel) rfl
theorem gw_1063 : Cond.selects RX5 yX5_seed yX5_seed ∈ Gw := gw_at 1063 (by decide +kernel) rfl
theorem gw_1072 : Cond.code yX5_awake cX5_awake 3 (some .int) ∈ Gw := gw_at 1072 (by decide +kernel) rfl
theorem gw_1071 : Cond.instanceMethod yX5_awake ∈ Gw := gw_at 1071 (by decide +kernel) rfl
theorem gw_44 : Cond.selects RX5 yX5_awake yX5_awake ∈ Gw := gw_at 44 (by decide +kernel) rfl
theorem gw_1068 : Cond.code yX5_now cX5_now 2 (some .int) ∈ Gw := gw_at 1068 (by decide +kernel) rfl
theorem gw_1066 : Cond.instanceMethod yX5_now ∈ Gw := gw_at 1066 (by decide +kernel) rfl
theorem gw_1067 : Cond.selects RX5 yX5_now yX5_now ∈ Gw := gw_at 1067 (by decide +kernel) rfl
theorem gw_1076 : Cond.code yX5_on cX5_on 4 (some .int) ∈ Gw := gw_at 1076 (by decide +kernel) rfl
theorem gw_1074 : Cond.instanceMethod yX5_on ∈ Gw := gw_at 1074 (by decide +kernel) rfl
theorem gw_1075 : Cond.selects RX5 yX5_on yX5_on ∈ Gw := gw_at 1075 (by decide +kernel) rfl
theorem gw_1091 : Cond.code yX5_is cX5_is 4 (some .boolean) ∈ Gw := gw_at 1091 (by decide +kernel) rfl
theorem gw_1090 : Cond.instanceMethod yX5_is ∈ Gw := gw_at 1090 (by decide +kernel) rfl
theorem gw_46 : Cond.selects RX5 yX5_is yX5_is ∈ Gw := gw_at 46 (by decide +kernel) rfl
theorem gw_1087 : Cond.code yX5_soonest cX5_soonest 6 (some .int) ∈ Gw := gw_at 1087 (by decide +kernel) rfl
theorem gw_1086 : Cond.instanceMethod yX5_soonest ∈ Gw := gw_at 1086 (by decide +kernel) rfl
theorem gw_45 : Cond.selects RX5 yX5_soonest yX5_soonest ∈ Gw := gw_at 45 (by decide +kernel) rfl
theorem gw_1083 : Cond.code yX5_river cX5_river 2 (some .int) ∈ Gw := gw_at 1083 (by decide +kernel) rfl
theorem gw_1081 : Cond.instanceMethod yX5_river ∈ Gw := gw_at 1081 (by decide +kernel) rfl
theorem gw_1082 : Cond.selects RX5 yX5_river yX5_river ∈ Gw := gw_at 1082 (by decide +kernel) rfl
theorem gw_1095 : Cond.code yX5_meet cX5_meet 3 (some .int) ∈ Gw := gw_at 1095 (by decide +kernel) rfl
theorem gw_1093 : Cond.instanceMethod yX5_meet ∈ Gw := gw_at 1093 (by decide +kernel) rfl
theorem gw_1094 : Cond.selects RX5 yX5_meet yX5_meet ∈ Gw := gw_at 1094 (by decide +kernel) rfl
theorem gw_1099 : Cond.code yX5_home cX5_home 2 (some .int) ∈ Gw := gw_at 1099 (by decide +kernel) rfl
theorem gw_1097 : Cond.instanceMethod yX5_home ∈ Gw := gw_at 1097 (by decide +kernel) rfl
theorem gw_1098 : Cond.selects RX5 yX5_home yX5_home ∈ Gw := gw_at 1098 (by decide +kernel) rfl
theorem gw_1107 : Cond.code yX5_isSafe cX5_isSafe 5 (some .boolean) ∈ Gw := gw_at 1107 (by decide +kernel) rfl
theorem gw_1106 : Cond.instanceMethod yX5_isSafe ∈ Gw := gw_at 1106 (by decide +kernel) rfl
theorem gw_47 : Cond.selects RX5 yX5_isSafe yX5_isSafe ∈ Gw := gw_at 47 (by decide +kernel) rfl
theorem gw_1103 : Cond.code yX5_safe cX5_safe 2 (some .int) ∈ Gw := gw_at 1103 (by decide +kernel) rfl
theorem gw_1101 : Cond.instanceMethod yX5_safe ∈ Gw := gw_at 1101 (by decide +kernel) rfl
theorem gw_1102 : Cond.selects RX5 yX5_safe yX5_safe ∈ Gw := gw_at 1102 (by decide +kernel) rfl
theorem gw_1115 : Cond.code yX5_banks cX5_banks 5 (some .int) ∈ Gw := gw_at 1115 (by decide +kernel) rfl
theorem gw_1114 : Cond.instanceMethod yX5_banks ∈ Gw := gw_at 1114 (by decide +kernel) rfl
theorem gw_48 : Cond.selects RX5 yX5_banks yX5_banks ∈ Gw := gw_at 48 (by decide +kernel) rfl
theorem gw_1119 : Cond.code yX5_isSafeBy cX5_isSafeBy 6 (some .boolean) ∈ Gw := gw_at 1119 (by decide +kernel) rfl
theorem gw_1118 : Cond.instanceMethod yX5_isSafeBy ∈ Gw := gw_at 1118 (by decide +kernel) rfl
theorem gw_49 : Cond.selects RX5 yX5_isSafeBy yX5_isSafeBy ∈ Gw := gw_at 49 (by decide +kernel) rfl
theorem gw_1111 : Cond.code yX5_barred cX5_barred 6 (some .int) ∈ Gw := gw_at 1111 (by decide +kernel) rfl
theorem gw_1109 : Cond.instanceMethod yX5_barred ∈ Gw := gw_at 1109 (by decide +kernel) rfl
theorem gw_1110 : Cond.selects RX5 yX5_barred yX5_barred ∈ Gw := gw_at 1110 (by decide +kernel) rfl
theorem gw_1123 : Cond.code yX5_lamp cX5_lamp 7 (some .int) ∈ Gw := gw_at 1123 (by decide +kernel) rfl
theorem gw_1121 : Cond.instanceMethod yX5_lamp ∈ Gw := gw_at 1121 (by decide +kernel) rfl
theorem gw_1122 : Cond.selects RX5 yX5_lamp yX5_lamp ∈ Gw := gw_at 1122 (by decide +kernel) rfl
theorem gw_1127 : Cond.code yX5_watch cX5_watch 5 (some .int) ∈ Gw := gw_at 1127 (by decide +kernel) rfl
theorem gw_1125 : Cond.instanceMethod yX5_watch ∈ Gw := gw_at 1125 (by decide +kernel) rfl
theorem gw_1126 : Cond.selects RX5 yX5_watch yX5_watch ∈ Gw := gw_at 1126 (by decide +kernel) rfl
theorem gw_1131 : Cond.code yX5_loop cX5_loop 6 (some .int) ∈ Gw := gw_at 1131 (by decide +kernel) rfl
theorem gw_1129 : Cond.instanceMethod yX5_loop ∈ Gw := gw_at 1129 (by decide +kernel) rfl
theorem gw_1130 : Cond.selects RX5 yX5_loop yX5_loop ∈ Gw := gw_at 1130 (by decide +kernel) rfl
theorem gw_1139 : Cond.code yX5_spreads cX5_spreads 7 none ∈ Gw := gw_at 1139 (by decide +kernel) rfl
theorem gw_1138 : Cond.instanceMethod yX5_spreads ∈ Gw := gw_at 1138 (by decide +kernel) rfl
theorem gw_50 : Cond.selects RX5 yX5_spreads yX5_spreads ∈ Gw := gw_at 50 (by decide +kernel) rfl
theorem gw_1135 : Cond.code yX5_odds cX5_odds 4 (some .long) ∈ Gw := gw_at 1135 (by decide +kernel) rfl
theorem gw_1133 : Cond.instanceMethod yX5_odds ∈ Gw := gw_at 1133 (by decide +kernel) rfl
theorem gw_1134 : Cond.selects RX5 yX5_odds yX5_odds ∈ Gw := gw_at 1134 (by decide +kernel) rfl
theorem gw_1144 : Cond.code yX5_likeliest cX5_likeliest 5 (some .int) ∈ Gw := gw_at 1144 (by decide +kernel) rfl
theorem gw_1142 : Cond.instanceMethod yX5_likeliest ∈ Gw := gw_at 1142 (by decide +kernel) rfl
theorem gw_1143 : Cond.selects RX5 yX5_likeliest yX5_likeliest ∈ Gw := gw_at 1143 (by decide +kernel) rfl
theorem gw_1148 : Cond.code yX5_feed cX5_feed 4 (some .int) ∈ Gw := gw_at 1148 (by decide +kernel) rfl
theorem gw_1146 : Cond.instanceMethod yX5_feed ∈ Gw := gw_at 1146 (by decide +kernel) rfl
theorem gw_1147 : Cond.selects RX5 yX5_feed yX5_feed ∈ Gw := gw_at 1147 (by decide +kernel) rfl
theorem gw_1152 : Cond.code yX5_wipe cX5_wipe 2 (some .int) ∈ Gw := gw_at 1152 (by decide +kernel) rfl
theorem gw_1150 : Cond.instanceMethod yX5_wipe ∈ Gw := gw_at 1150 (by decide +kernel) rfl
theorem gw_1151 : Cond.selects RX5 yX5_wipe yX5_wipe ∈ Gw := gw_at 1151 (by decide +kernel) rfl
theorem gw_1181 : Cond.code yX5_byteAt cX5_byteAt 2 (some .int) ∈ Gw := gw_at 1181 (by decide +kernel) rfl
theorem gw_1180 : Cond.instanceMethod yX5_byteAt ∈ Gw := gw_at 1180 (by decide +kernel) rfl
theorem gw_54 : Cond.selects RX5 yX5_byteAt yX5_byteAt ∈ Gw := gw_at 54 (by decide +kernel) rfl
theorem gw_1177 : Cond.code yX5_blanks cX5_blanks 1 none ∈ Gw := gw_at 1177 (by decide +kernel) rfl
theorem gw_1176 : Cond.instanceMethod yX5_blanks ∈ Gw := gw_at 1176 (by decide +kernel) rfl
theorem gw_53 : Cond.selects RX5 yX5_blanks yX5_blanks ∈ Gw := gw_at 53 (by decide +kernel) rfl
theorem gw_1194 : Cond.code yX5_fails cX5_fails 1 (some .boolean) ∈ Gw := gw_at 1194 (by decide +kernel) rfl
theorem gw_1193 : Cond.instanceMethod yX5_fails ∈ Gw := gw_at 1193 (by decide +kernel) rfl
theorem gw_56 : Cond.selects RX5 yX5_fails yX5_fails ∈ Gw := gw_at 56 (by decide +kernel) rfl
theorem gw_1188 : Cond.code yX5_isLetter cX5_isLetter 1 (some .boolean) ∈ Gw := gw_at 1188 (by decide +kernel) rfl
theorem gw_1187 : Cond.static yX5_isLetter ∈ Gw := gw_at 1187 (by decide +kernel) rfl
theorem gw_1214 : Cond.code yX5_isDigit cX5_isDigit 1 (some .boolean) ∈ Gw := gw_at 1214 (by decide +kernel) rfl
theorem gw_1213 : Cond.static yX5_isDigit ∈ Gw := gw_at 1213 (by decide +kernel) rfl
theorem gw_1185 : Cond.code yX5_wordEnd cX5_wordEnd 2 (some .int) ∈ Gw := gw_at 1185 (by decide +kernel) rfl
theorem gw_1184 : Cond.instanceMethod yX5_wordEnd ∈ Gw := gw_at 1184 (by decide +kernel) rfl
theorem gw_55 : Cond.selects RX5 yX5_wordEnd yX5_wordEnd ∈ Gw := gw_at 55 (by decide +kernel) rfl
theorem gw_1173 : Cond.code yX5_isWord cX5_isWord 4 (some .boolean) ∈ Gw := gw_at 1173 (by decide +kernel) rfl
theorem gw_1172 : Cond.instanceMethod yX5_isWord ∈ Gw := gw_at 1172 (by decide +kernel) rfl
theorem gw_52 : Cond.selects RX5 yX5_isWord yX5_isWord ∈ Gw := gw_at 52 (by decide +kernel) rfl
theorem gw_1198 : Cond.code yX5_may_ cX5_may_ 3 (some .boolean) ∈ Gw := gw_at 1198 (by decide +kernel) rfl
theorem gw_1197 : Cond.instanceMethod yX5_may_ ∈ Gw := gw_at 1197 (by decide +kernel) rfl
theorem gw_57 : Cond.selects RX5 yX5_may_ yX5_may_ ∈ Gw := gw_at 57 (by decide +kernel) rfl
theorem gw_1207 : Cond.code yX5_must cX5_must 2 (some .boolean) ∈ Gw := gw_at 1207 (by decide +kernel) rfl
theorem gw_1206 : Cond.instanceMethod yX5_must ∈ Gw := gw_at 1206 (by decide +kernel) rfl
theorem gw_59 : Cond.selects RX5 yX5_must yX5_must ∈ Gw := gw_at 59 (by decide +kernel) rfl
theorem gw_1211 : Cond.code yX5_number cX5_number 6 (some .boolean) ∈ Gw := gw_at 1211 (by decide +kernel) rfl
theorem gw_1210 : Cond.instanceMethod yX5_number ∈ Gw := gw_at 1210 (by decide +kernel) rfl
theorem gw_60 : Cond.selects RX5 yX5_number yX5_number ∈ Gw := gw_at 60 (by decide +kernel) rfl
theorem gw_1250 : Cond.code yX5_isNumber cX5_isNumber 1 (some .boolean) ∈ Gw := gw_at 1250 (by decide +kernel) rfl
theorem gw_1249 : Cond.instanceMethod yX5_isNumber ∈ Gw := gw_at 1249 (by decide +kernel) rfl
theorem gw_65 : Cond.selects RX5 yX5_isNumber yX5_isNumber ∈ Gw := gw_at 65 (by decide +kernel) rfl
theorem gw_1163 : Cond.code yX5_kindName cX5_kindName 1 (some (.object "java/lang/String")) ∈ Gw := gw_at 1163 (by decide +kernel) rfl
theorem gw_1162 : Cond.static yX5_kindName ∈ Gw := gw_at 1162 (by decide +kernel) rfl
theorem gw_1226 : Cond.code yX5_doorTold cX5_doorTold 5 (some .boolean) ∈ Gw := gw_at 1226 (by decide +kernel) rfl
theorem gw_1225 : Cond.instanceMethod yX5_doorTold ∈ Gw := gw_at 1225 (by decide +kernel) rfl
theorem gw_61 : Cond.selects RX5 yX5_doorTold yX5_doorTold ∈ Gw := gw_at 61 (by decide +kernel) rfl
theorem gw_1232 : Cond.code yX5_heightTold cX5_heightTold 2 (some .boolean) ∈ Gw := gw_at 1232 (by decide +kernel) rfl
theorem gw_1231 : Cond.instanceMethod yX5_heightTold ∈ Gw := gw_at 1231 (by decide +kernel) rfl
theorem gw_62 : Cond.selects RX5 yX5_heightTold yX5_heightTold ∈ Gw := gw_at 62 (by decide +kernel) rfl
theorem gw_1237 : Cond.code yX5_markTold cX5_markTold 3 (some .boolean) ∈ Gw := gw_at 1237 (by decide +kernel) rfl
theorem gw_1236 : Cond.instanceMethod yX5_markTold ∈ Gw := gw_at 1236 (by decide +kernel) rfl
theorem gw_63 : Cond.selects RX5 yX5_markTold yX5_markTold ∈ Gw := gw_at 63 (by decide +kernel) rfl
theorem gw_1202 : Cond.code yX5_walkerTold cX5_walkerTold 4 (some .boolean) ∈ Gw := gw_at 1202 (by decide +kernel) rfl
theorem gw_1201 : Cond.instanceMethod yX5_walkerTold ∈ Gw := gw_at 1201 (by decide +kernel) rfl
theorem gw_58 : Cond.selects RX5 yX5_walkerTold yX5_walkerTold ∈ Gw := gw_at 58 (by decide +kernel) rfl
theorem gw_1245 : Cond.code yX5_roundsTold cX5_roundsTold 1 (some .boolean) ∈ Gw := gw_at 1245 (by decide +kernel) rfl
theorem gw_1244 : Cond.instanceMethod yX5_roundsTold ∈ Gw := gw_at 1244 (by decide +kernel) rfl
theorem gw_64 : Cond.selects RX5 yX5_roundsTold yX5_roundsTold ∈ Gw := gw_at 64 (by decide +kernel) rfl
theorem gw_1160 : Cond.code yX5_item cX5_item 2 (some .boolean) ∈ Gw := gw_at 1160 (by decide +kernel) rfl
theorem gw_1159 : Cond.instanceMethod yX5_item ∈ Gw := gw_at 1159 (by decide +kernel) rfl
theorem gw_51 : Cond.selects RX5 yX5_item yX5_item ∈ Gw := gw_at 51 (by decide +kernel) rfl
theorem gw_1156 : Cond.code yX5_ward cX5_ward 3 (some .int) ∈ Gw := gw_at 1156 (by decide +kernel) rfl
theorem gw_1154 : Cond.instanceMethod yX5_ward ∈ Gw := gw_at 1154 (by decide +kernel) rfl
theorem gw_1155 : Cond.selects RX5 yX5_ward yX5_ward ∈ Gw := gw_at 1155 (by decide +kernel) rfl
theorem gw_1257 : Cond.code yX5_isSheet cX5_isSheet 1 (some .boolean) ∈ Gw := gw_at 1257 (by decide +kernel) rfl
theorem gw_1256 : Cond.static yX5_isSheet ∈ Gw := gw_at 1256 (by decide +kernel) rfl
theorem gw_1254 : Cond.code yX5_sheet cX5_sheet 5 (some .int) ∈ Gw := gw_at 1254 (by decide +kernel) rfl
theorem gw_1252 : Cond.instanceMethod yX5_sheet ∈ Gw := gw_at 1252 (by decide +kernel) rfl
theorem gw_1253 : Cond.selects RX5 yX5_sheet yX5_sheet ∈ Gw := gw_at 1253 (by decide +kernel) rfl
theorem gw_1265 : Cond.code yX5_writes cX5_writes 5 none ∈ Gw := gw_at 1265 (by decide +kernel) rfl
theorem gw_1264 : Cond.instanceMethod yX5_writes ∈ Gw := gw_at 1264 (by decide +kernel) rfl
theorem gw_66 : Cond.selects RX5 yX5_writes yX5_writes ∈ Gw := gw_at 66 (by decide +kernel) rfl
theorem gw_1261 : Cond.code yX5_write cX5_write 7 (some .long) ∈ Gw := gw_at 1261 (by decide +kernel) rfl
theorem gw_1259 : Cond.instanceMethod yX5_write ∈ Gw := gw_at 1259 (by decide +kernel) rfl
theorem gw_1260 : Cond.selects RX5 yX5_write yX5_write ∈ Gw := gw_at 1260 (by decide +kernel) rfl
theorem gw_1269 : Cond.code yX5_copy cX5_copy 7 (some .int) ∈ Gw := gw_at 1269 (by decide +kernel) rfl
theorem gw_1267 : Cond.instanceMethod yX5_copy ∈ Gw := gw_at 1267 (by decide +kernel) rfl
theorem gw_1268 : Cond.selects RX5 yX5_copy yX5_copy ∈ Gw := gw_at 1268 (by decide +kernel) rfl
theorem gw_1273 : Cond.code yX5_lays cX5_lays 6 (some .int) ∈ Gw := gw_at 1273 (by decide +kernel) rfl
theorem gw_1271 : Cond.instanceMethod yX5_lays ∈ Gw := gw_at 1271 (by decide +kernel) rfl
theorem gw_1272 : Cond.selects RX5 yX5_lays yX5_lays ∈ Gw := gw_at 1272 (by decide +kernel) rfl
theorem gw_1278 : Cond.code yX5_track cX5_track 4 (some .int) ∈ Gw := gw_at 1278 (by decide +kernel) rfl
theorem gw_1276 : Cond.instanceMethod yX5_track ∈ Gw := gw_at 1276 (by decide +kernel) rfl
theorem gw_1277 : Cond.selects RX5 yX5_track yX5_track ∈ Gw := gw_at 1277 (by decide +kernel) rfl
theorem gw_1282 : Cond.code yX5_whose cX5_whose 5 (some .int) ∈ Gw := gw_at 1282 (by decide +kernel) rfl
theorem gw_1280 : Cond.instanceMethod yX5_whose ∈ Gw := gw_at 1280 (by decide +kernel) rfl
theorem gw_1281 : Cond.selects RX5 yX5_whose yX5_whose ∈ Gw := gw_at 1281 (by decide +kernel) rfl
theorem gw_1286 : Cond.code yX5_image cX5_image 1 (some .int) ∈ Gw := gw_at 1286 (by decide +kernel) rfl
theorem gw_1284 : Cond.instanceMethod yX5_image ∈ Gw := gw_at 1284 (by decide +kernel) rfl
theorem gw_1285 : Cond.selects RX5 yX5_image yX5_image ∈ Gw := gw_at 1285 (by decide +kernel) rfl
theorem gw_1290 : Cond.code yX5_undo cX5_undo 1 (some .int) ∈ Gw := gw_at 1290 (by decide +kernel) rfl
theorem gw_1288 : Cond.instanceMethod yX5_undo ∈ Gw := gw_at 1288 (by decide +kernel) rfl
theorem gw_1289 : Cond.selects RX5 yX5_undo yX5_undo ∈ Gw := gw_at 1289 (by decide +kernel) rfl
theorem gw_1294 : Cond.code yX5_tear cX5_tear 2 (some .int) ∈ Gw := gw_at 1294 (by decide +kernel) rfl
theorem gw_1292 : Cond.instanceMethod yX5_tear ∈ Gw := gw_at 1292 (by decide +kernel) rfl
theorem gw_1293 : Cond.selects RX5 yX5_tear yX5_tear ∈ Gw := gw_at 1293 (by decide +kernel) rfl
theorem gw_1302 : Cond.code yX5_sumOf cX5_sumOf 5 (some .int) ∈ Gw := gw_at 1302 (by decide +kernel) rfl
theorem gw_1301 : Cond.instanceMethod yX5_sumOf ∈ Gw := gw_at 1301 (by decide +kernel) rfl
theorem gw_67 : Cond.selects RX5 yX5_sumOf yX5_sumOf ∈ Gw := gw_at 67 (by decide +kernel) rfl
theorem gw_1298 : Cond.code yX5_count cX5_count 2 (some .int) ∈ Gw := gw_at 1298 (by decide +kernel) rfl
theorem gw_1296 : Cond.instanceMethod yX5_count ∈ Gw := gw_at 1296 (by decide +kernel) rfl
theorem gw_1297 : Cond.selects RX5 yX5_count yX5_count ∈ Gw := gw_at 1297 (by decide +kernel) rfl
theorem gw_1306 : Cond.code yX5_status cX5_status 4 (some .int) ∈ Gw := gw_at 1306 (by decide +kernel) rfl
theorem gw_1304 : Cond.instanceMethod yX5_status ∈ Gw := gw_at 1304 (by decide +kernel) rfl
theorem gw_1305 : Cond.selects RX5 yX5_status yX5_status ∈ Gw := gw_at 1305 (by decide +kernel) rfl
theorem gw_100 : Cond.methodLink RX3 56 yJ7_fill_53178 ∈ Gw := gw_at 100 (by decide +kernel) rfl
theorem gw_275 : Cond.methodLink RL 13 yX4_door ∈ Gw := gw_at 275 (by decide +kernel) rfl
theorem gw_279 : Cond.methodLink RX4 58 yX3_doorBetween ∈ Gw := gw_at 279 (by decide +kernel) rfl
theorem gw_285 : Cond.methodLink RX4 78 yX4_isWithin ∈ Gw := gw_at 285 (by decide +kernel) rfl
theorem gw_294 : Cond.methodLink RX3 86 yX3_squareBeside ∈ Gw := gw_at 294 (by decide +kernel) rfl
theorem gw_298 : Cond.methodLink RX4 63 yX4_tell ∈ Gw := gw_at 298 (by decide +kernel) rfl
theorem gw_302 : Cond.methodLink RX4 67 yX3_putDoor ∈ Gw := gw_at 302 (by decide +kernel) rfl
theorem gw_306 : Cond.methodLink RX3 89 yX3_isShut ∈ Gw := gw_at 306 (by decide +kernel) rfl
theorem gw_311 : Cond.methodLink RL 18 yX4_isOpen ∈ Gw := gw_at 311 (by decide +kernel) rfl
theorem gw_315 : Cond.methodLink RX4 71 yX3_isShut ∈ Gw := gw_at 315 (by decide +kernel) rfl
theorem gw_316 : Cond.methodLink RL 23 yX4_height ∈ Gw := gw_at 316 (by decide +kernel) rfl
theorem gw_320 : Cond.methodLink RX4 75 yX4_isSquare ∈ Gw := gw_at 320 (by decide +kernel) rfl
theorem gw_321 : Cond.methodLink RL 27 yX4_mark ∈ Gw := gw_at 321 (by decide +kernel) rfl
theorem gw_325 : Cond.methodLink RX4 85 yX3_putLamp ∈ Gw := gw_at 325 (by decide +kernel) rfl
theorem gw_329 : Cond.methodLink RX3 94 yX3_hasLamp ∈ Gw := gw_at 329 (by decide +kernel) rfl
theorem gw_333 : Cond.methodLink RX4 88 yX3_putRiver ∈ Gw := gw_at 333 (by decide +kernel) rfl
theorem gw_337 : Cond.methodLink RX3 97 yX3_isRiver ∈ Gw := gw_at 337 (by decide +kernel) rfl
theorem gw_341 : Cond.methodLink RL 31 yX4_squareOf ∈ Gw := gw_at 341 (by decide +kernel) rfl
theorem gw_345 : Cond.methodLink RX4 91 yX3_hasLamp ∈ Gw := gw_at 345 (by decide +kernel) rfl
theorem gw_346 : Cond.methodLink RX4 94 yX3_isRiver ∈ Gw := gw_at 346 (by decide +kernel) rfl
theorem gw_347 : Cond.methodLink RX4 97 yX3_walkersAt ∈ Gw := gw_at 347 (by decide +kernel) rfl
theorem gw_351 : Cond.methodLink RL 35 yX4_moon ∈ Gw := gw_at 351 (by decide +kernel) rfl
theorem gw_355 : Cond.methodLink RL 40 yX4_round ∈ Gw := gw_at 355 (by decide +kernel) rfl
theorem gw_360 : Cond.methodLink RX4 108 yX3_addRound ∈ Gw := gw_at 360 (by decide +kernel) rfl
theorem gw_364 : Cond.methodLink RL 44 yX4_rest ∈ Gw := gw_at 364 (by decide +kernel) rfl
theorem gw_368 : Cond.methodLink RX4 112 yX3_emptyRounds ∈ Gw := gw_at 368 (by decide +kernel) rfl
theorem gw_372 : Cond.methodLink RL 49 yX4_walker ∈ Gw := gw_at 372 (by decide +kernel) rfl
theorem gw_376 : Cond.methodLink RX4 115 yX4_isKind ∈ Gw := gw_at 376 (by decide +kernel) rfl
theorem gw_379 : Cond.methodLink RX4 118 yX4_isWay ∈ Gw := gw_at 379 (by decide +kernel) rfl
theorem gw_382 : Cond.methodLink RX4 124 yX3_addWalker ∈ Gw := gw_at 382 (by decide +kernel) rfl
theorem gw_386 : Cond.methodLink RL 54 yX4_of ∈ Gw := gw_at 386 (by decide +kernel) rfl
theorem gw_390 : Cond.methodLink RX4 128 yX4_isWalker ∈ Gw := gw_at 390 (by decide +kernel) rfl
theorem gw_394 : Cond.methodLink RX4 152 yX3_waysFrom ∈ Gw := gw_at 394 (by decide +kernel) rfl
theorem gw_398 : Cond.methodLink RL 58 yX4_set ∈ Gw := gw_at 398 (by decide +kernel) rfl
theorem gw_402 : Cond.methodLink RL 62 yX4_wake ∈ Gw := gw_at 402 (by decide +kernel) rfl
theorem gw_406 : Cond.methodLink RL 67 yX4_turn ∈ Gw := gw_at 406 (by decide +kernel) rfl
theorem gw_410 : Cond.methodLink RL 71 yX4_as ∈ Gw := gw_at 410 (by decide +kernel) rfl
theorem gw_414 : Cond.methodLink RX4 155 yX4_isUnder ∈ Gw := gw_at 414 (by decide +kernel) rfl
theorem gw_420 : Cond.methodLink RL 75 yX4_step ∈ Gw := gw_at 420 (by decide +kernel) rfl
theorem gw_424 : Cond.methodLink RX4 163 yX3_stepOf ∈ Gw := gw_at 424 (by decide +kernel) rfl
theorem gw_428 : Cond.methodLink RX3 116 yX3_waysFrom ∈ Gw := gw_at 428 (by decide +kernel) rfl
theorem gw_429 : Cond.methodLink RX3 120 yX3_slopeStep ∈ Gw := gw_at 429 (by decide +kernel) rfl
theorem gw_433 : Cond.methodLink RX3 130 yX3_plainStep ∈ Gw := gw_at 433 (by decide +kernel) rfl
theorem gw_436 : Cond.methodLink RX3 124 yX3_lampStep ∈ Gw := gw_at 436 (by decide +kernel) rfl
theorem gw_440 : Cond.methodLink RX3 127 yX3_drawnStep ∈ Gw := gw_at 440 (by decide +kernel) rfl
theorem gw_444 : Cond.methodLink RX3 133 yJ6_bitCount_0f7a4 ∈ Gw := gw_at 444 (by decide +kernel) rfl
theorem gw_451 : Cond.methodLink RL 79 yX4_minutes ∈ Gw := gw_at 451 (by decide +kernel) rfl
theorem gw_455 : Cond.methodLink RX4 167 yX4_isTooLate ∈ Gw := gw_at 455 (by decide +kernel) rfl
theorem gw_460 : Cond.methodLink RX4 171 yX3_goMinutes ∈ Gw := gw_at 460 (by decide +kernel) rfl
theorem gw_464 : Cond.methodLink RX3 139 yX3_goMinute ∈ Gw := gw_at 464 (by decide +kernel) rfl
theorem gw_468 : Cond.methodLink RX3 143 yX3_stepOf ∈ Gw := gw_at 468 (by decide +kernel) rfl
theorem gw_469 : Cond.methodLink RL 83 yX4_bed ∈ Gw := gw_at 469 (by decide +kernel) rfl
theorem gw_473 : Cond.methodLink RX4 174 yX3_homeCount ∈ Gw := gw_at 473 (by decide +kernel) rfl
theorem gw_477 : Cond.methodLink RL 87 yX4_seed ∈ Gw := gw_at 477 (by decide +kernel) rfl
theorem gw_481 : Cond.methodLink RL 91 yX4_now ∈ Gw := gw_at 481 (by decide +kernel) rfl
theorem gw_485 : Cond.methodLink RX4 184 yX3_awakeCount ∈ Gw := gw_at 485 (by decide +kernel) rfl
theorem gw_489 : Cond.methodLink RX4 187 yX3_riverCount ∈ Gw := gw_at 489 (by decide +kernel) rfl
theorem gw_493 : Cond.methodLink RL 95 yX4_on ∈ Gw := gw_at 493 (by decide +kernel) rfl
theorem gw_497 : Cond.methodLink RX4 190 yX3_takeFrom ∈ Gw := gw_at 497 (by decide +kernel) rfl
theorem gw_504 : Cond.methodLink RX3 69 yX2_takeFrom ∈ Gw := gw_at 504 (by decide +kernel) rfl
theorem gw_508 : Cond.methodLink RL 99 yX4_river ∈ Gw := gw_at 508 (by decide +kernel) rfl
theorem gw_512 : Cond.methodLink RX4 194 yX3_goMinute ∈ Gw := gw_at 512 (by decide +kernel) rfl
theorem gw_514 : Cond.methodLink RL 103 yX4_meet ∈ Gw := gw_at 514 (by decide +kernel) rfl
theorem gw_518 : Cond.methodLink RL 107 yX4_home ∈ Gw := gw_at 518 (by decide +kernel) rfl
theorem gw_522 : Cond.methodLink RL 111 yX4_safe ∈ Gw := gw_at 522 (by decide +kernel) rfl
theorem gw_526 : Cond.methodLink RX4 198 yX4_isSafe ∈ Gw := gw_at 526 (by decide +kernel) rfl
theorem gw_530 : Cond.methodLink RL 115 yX4_barred ∈ Gw := gw_at 530 (by decide +kernel) rfl
theorem gw_534 : Cond.methodLink RX4 202 yX4_findBanks ∈ Gw := gw_at 534 (by decide +kernel) rfl
theorem gw_538 : Cond.methodLink RX4 228 yX3_squareBeside ∈ Gw := gw_at 538 (by decide +kernel) rfl
theorem gw_540 : Cond.methodLink RX4 206 yX4_leastBars ∈ Gw := gw_at 540 (by decide +kernel) rfl
theorem gw_544 : Cond.methodLink RX4 209 yJ6_bitCount_0f7a4 ∈ Gw := gw_at 544 (by decide +kernel) rfl
theorem gw_545 : Cond.methodLink RX4 295 yX4_doorsOf ∈ Gw := gw_at 545 (by decide +kernel) rfl
theorem gw_549 : Cond.methodLink RL 119 yX4_lamp ∈ Gw := gw_at 549 (by decide +kernel) rfl
theorem gw_553 : Cond.methodLink RX4 217 yX4_placesWithLamps ∈ Gw := gw_at 553 (by decide +kernel) rfl
theorem gw_557 : Cond.methodLink RX4 221 yX4_countOthers ∈ Gw := gw_at 557 (by decide +kernel) rfl
theorem gw_561 : Cond.methodLink RL 123 yX4_watch ∈ Gw := gw_at 561 (by decide +kernel) rfl
theorem gw_565 : Cond.methodLink RL 127 yX4_loop ∈ Gw := gw_at 565 (by decide +kernel) rfl
theorem gw_569 : Cond.methodLink RX4 225 yX3_plainStep ∈ Gw := gw_at 569 (by decide +kernel) rfl
theorem gw_570 : Cond.methodLink RL 131 yX4_odds ∈ Gw := gw_at 570 (by decide +kernel) rfl
theorem gw_574 : Cond.methodLink RX4 231 yX4_spreadOdds ∈ Gw := gw_at 574 (by decide +kernel) rfl
theorem gw_578 : Cond.methodLink RX4 300 yJ7_fill_d0a16 ∈ Gw := gw_at 578 (by decide +kernel) rfl
theorem gw_581 : Cond.methodLink RX4 306 yX4_spreadFrom ∈ Gw := gw_at 581 (by decide +kernel) rfl
theorem gw_587 : Cond.methodLink RL 136 yX4_likeliest ∈ Gw := gw_at 587 (by decide +kernel) rfl
theorem gw_591 : Cond.methodLink RL 140 yX4_feed ∈ Gw := gw_at 591 (by decide +kernel) rfl
theorem gw_595 : Cond.methodLink RX4 238 yX1_addByte ∈ Gw := gw_at 595 (by decide +kernel) rfl
theorem gw_599 : Cond.methodLink RL 144 yX4_wipe ∈ Gw := gw_at 599 (by decide +kernel) rfl
theorem gw_603 : Cond.methodLink RL 148 yX4_ward ∈ Gw := gw_at 603 (by decide +kernel) rfl
theorem gw_607 : Cond.methodLink RX4 241 yX1_readItems ∈ Gw := gw_at 607 (by decide +kernel) rfl
theorem gw_611 : Cond.methodLink RX1 34 yX1_nextToken ∈ Gw := gw_at 611 (by decide +kernel) rfl
theorem gw_615 : Cond.methodLink RX1 152 yX1_isLetter ∈ Gw := gw_at 615 (by decide +kernel) rfl
theorem gw_618 : Cond.methodLink RX1 156 yX1_isDigit ∈ Gw := gw_at 618 (by decide +kernel) rfl
theorem gw_622 : Cond.methodLink RX1 37 yX1_readItem ∈ Gw := gw_at 622 (by decide +kernel) rfl
theorem gw_627 : Cond.methodLink RX1 43 yX1_takesWord ∈ Gw := gw_at 627 (by decide +kernel) rfl
theorem gw_631 : Cond.methodLink RX1 129 yX1_isWord ∈ Gw := gw_at 631 (by decide +kernel) rfl
theorem gw_635 : Cond.methodLink RX1 144 yJ0_length_8abf5 ∈ Gw := gw_at 635 (by decide +kernel) rfl
theorem gw_639 : Cond.methodLink RJ0 335 yJ0_coder_7d493 ∈ Gw := gw_at 639 (by decide +kernel) rfl
theorem gw_645 : Cond.methodLink RX1 148 yJ0_charAt_5068e ∈ Gw := gw_at 645 (by decide +kernel) rfl
theorem gw_649 : Cond.methodLink RJ0 492 yJ0_isLatin1_aae02 ∈ Gw := gw_at 649 (by decide +kernel) rfl
theorem gw_653 : Cond.methodLink RJ0 495 yJ1_charAt_3b067 ∈ Gw := gw_at 653 (by decide +kernel) rfl
theorem gw_656 : Cond.methodLink RJ1 9 yJ0_checkIndex_df160 ∈ Gw := gw_at 656 (by decide +kernel) rfl
theorem gw_661 : Cond.methodLink RJ0 1059 yJ3_checkIndex_8e157 ∈ Gw := gw_at 661 (by decide +kernel) rfl
theorem gw_664 : Cond.methodLink RJ0 498 yJ2_charAt_3b067 ∈ Gw := gw_at 664 (by decide +kernel) rfl
theorem gw_667 : Cond.methodLink RJ2 67 yJ2_checkIndex_2214a ∈ Gw := gw_at 667 (by decide +kernel) rfl
theorem gw_670 : Cond.methodLink RJ2 48 yJ2_length_9d52b ∈ Gw := gw_at 670 (by decide +kernel) rfl
theorem gw_673 : Cond.methodLink RJ2 414 yJ0_checkIndex_df160 ∈ Gw := gw_at 673 (by decide +kernel) rfl
theorem gw_674 : Cond.methodLink RJ2 71 yJ2_getChar_3b067 ∈ Gw := gw_at 674 (by decide +kernel) rfl
theorem gw_683 : Cond.methodLink RX1 47 yX1_readDoor ∈ Gw := gw_at 683 (by decide +kernel) rfl
theorem gw_687 : Cond.methodLink RX1 60 yX1_takeNumber ∈ Gw := gw_at 687 (by decide +kernel) rfl
theorem gw_691 : Cond.methodLink RX1 89 yX3_doorBetween ∈ Gw := gw_at 691 (by decide +kernel) rfl
theorem gw_692 : Cond.methodLink RX1 93 yX3_putDoor ∈ Gw := gw_at 692 (by decide +kernel) rfl
theorem gw_695 : Cond.methodLink RX1 55 yX1_readHeight ∈ Gw := gw_at 695 (by decide +kernel) rfl
theorem gw_700 : Cond.methodLink RX1 64 yX3_putLamp ∈ Gw := gw_at 700 (by decide +kernel) rfl
theorem gw_702 : Cond.methodLink RX1 72 yX1_readRiver ∈ Gw := gw_at 702 (by decide +kernel) rfl
theorem gw_706 : Cond.methodLink RX1 100 yX3_putRiver ∈ Gw := gw_at 706 (by decide +kernel) rfl
theorem gw_710 : Cond.methodLink RX1 83 yX1_readRounds ∈ Gw := gw_at 710 (by decide +kernel) rfl
theorem gw_714 : Cond.methodLink RX1 103 yX3_emptyRounds ∈ Gw := gw_at 714 (by decide +kernel) rfl
theorem gw_715 : Cond.methodLink RX1 106 yX3_addRound ∈ Gw := gw_at 715 (by decide +kernel) rfl
theorem gw_716 : Cond.methodLink RX1 86 yX1_readWalker ∈ Gw := gw_at 716 (by decide +kernel) rfl
theorem gw_720 : Cond.methodLink RX1 110 yX1_kindOfWord ∈ Gw := gw_at 720 (by decide +kernel) rfl
theorem gw_724 : Cond.methodLink RX1 125 yX1_nameOf ∈ Gw := gw_at 724 (by decide +kernel) rfl
theorem gw_735 : Cond.methodLink RX1 121 yX3_addWalker ∈ Gw := gw_at 735 (by decide +kernel) rfl
theorem gw_736 : Cond.methodLink RL 152 yX4_sheet ∈ Gw := gw_at 736 (by decide +kernel) rfl
theorem gw_740 : Cond.methodLink RX4 248 yX4_isSheet ∈ Gw := gw_at 740 (by decide +kernel) rfl
theorem gw_743 : Cond.methodLink RX4 251 yX0_clear ∈ Gw := gw_at 743 (by decide +kernel) rfl
theorem gw_747 : Cond.methodLink RX0 22 yJ7_fill_d0a16 ∈ Gw := gw_at 747 (by decide +kernel) rfl
theorem gw_748 : Cond.methodLink RL 158 yX4_write ∈ Gw := gw_at 748 (by decide +kernel) rfl
theorem gw_752 : Cond.methodLink RX4 255 yX0_isMissing ∈ Gw := gw_at 752 (by decide +kernel) rfl
theorem gw_757 : Cond.methodLink RX4 263 yX0_putNumber ∈ Gw := gw_at 757 (by decide +kernel) rfl
theorem gw_761 : Cond.methodLink RL 163 yX4_copy ∈ Gw := gw_at 761 (by decide +kernel) rfl
theorem gw_765 : Cond.methodLink RX4 270 yX0_hasRun ∈ Gw := gw_at 765 (by decide +kernel) rfl
theorem gw_769 : Cond.methodLink RL 168 yX4_lays ∈ Gw := gw_at 769 (by decide +kernel) rfl
theorem gw_774 : Cond.methodLink RL 172 yX4_track ∈ Gw := gw_at 774 (by decide +kernel) rfl
theorem gw_778 : Cond.methodLink RL 176 yX4_whose ∈ Gw := gw_at 778 (by decide +kernel) rfl
theorem gw_782 : Cond.methodLink RL 180 yX4_image ∈ Gw := gw_at 782 (by decide +kernel) rfl
theorem gw_786 : Cond.methodLink RL 184 yX4_undo ∈ Gw := gw_at 786 (by decide +kernel) rfl
theorem gw_790 : Cond.methodLink RL 188 yX4_tear ∈ Gw := gw_at 790 (by decide +kernel) rfl
theorem gw_794 : Cond.methodLink RL 192 yX4_count ∈ Gw := gw_at 794 (by decide +kernel) rfl
theorem gw_798 : Cond.methodLink RX4 285 yJ13_bitCount_95d88 ∈ Gw := gw_at 798 (by decide +kernel) rfl
theorem gw_804 : Cond.methodLink RL 196 yX4_status ∈ Gw := gw_at 804 (by decide +kernel) rfl
theorem gw_872 : Cond.methodLink RL 17 yX5_door ∈ Gw := gw_at 872 (by decide +kernel) rfl
theorem gw_876 : Cond.methodLink RX5 76 yX5_doorOf ∈ Gw := gw_at 876 (by decide +kernel) rfl
theorem gw_880 : Cond.methodLink RX5 69 yX5_isSquare ∈ Gw := gw_at 880 (by decide +kernel) rfl
theorem gw_883 : Cond.methodLink RX5 55 yX5_in ∈ Gw := gw_at 883 (by decide +kernel) rfl
theorem gw_886 : Cond.methodLink RX5 73 yX5_wayTo ∈ Gw := gw_at 886 (by decide +kernel) rfl
theorem gw_889 : Cond.methodLink RX5 63 yX5_beside ∈ Gw := gw_at 889 (by decide +kernel) rfl
theorem gw_892 : Cond.methodLink RX5 66 yX5_doorAt ∈ Gw := gw_at 892 (by decide +kernel) rfl
theorem gw_895 : Cond.methodLink RX5 79 yX5_no ∈ Gw := gw_at 895 (by decide +kernel) rfl
theorem gw_900 : Cond.methodLink RX5 83 yX5_puts ∈ Gw := gw_at 900 (by decide +kernel) rfl
theorem gw_904 : Cond.methodLink RL 22 yX5_isOpen ∈ Gw := gw_at 904 (by decide +kernel) rfl
theorem gw_908 : Cond.methodLink RL 26 yX5_height ∈ Gw := gw_at 908 (by decide +kernel) rfl
theorem gw_912 : Cond.methodLink RL 30 yX5_mark ∈ Gw := gw_at 912 (by decide +kernel) rfl
theorem gw_916 : Cond.methodLink RL 34 yX5_squareOf ∈ Gw := gw_at 916 (by decide +kernel) rfl
theorem gw_920 : Cond.methodLink RX5 86 yX5_walkersAt ∈ Gw := gw_at 920 (by decide +kernel) rfl
theorem gw_924 : Cond.methodLink RX5 59 yX5_has ∈ Gw := gw_at 924 (by decide +kernel) rfl
theorem gw_928 : Cond.methodLink RL 39 yX5_moon ∈ Gw := gw_at 928 (by decide +kernel) rfl
theorem gw_932 : Cond.methodLink RL 43 yX5_round ∈ Gw := gw_at 932 (by decide +kernel) rfl
theorem gw_936 : Cond.methodLink RL 48 yX5_rest ∈ Gw := gw_at 936 (by decide +kernel) rfl
theorem gw_940 : Cond.methodLink RL 53 yX5_walker ∈ Gw := gw_at 940 (by decide +kernel) rfl
theorem gw_944 : Cond.methodLink RX5 93 yX5_isKind ∈ Gw := gw_at 944 (by decide +kernel) rfl
theorem gw_947 : Cond.methodLink RX5 96 yX5_isWay ∈ Gw := gw_at 947 (by decide +kernel) rfl
theorem gw_950 : Cond.methodLink RX5 99 yX5_adds ∈ Gw := gw_at 950 (by decide +kernel) rfl
theorem gw_954 : Cond.methodLink RX5 89 yX5_gets ∈ Gw := gw_at 954 (by decide +kernel) rfl
theorem gw_958 : Cond.methodLink RL 57 yX5_of ∈ Gw := gw_at 958 (by decide +kernel) rfl
theorem gw_962 : Cond.methodLink RX5 107 yX5_isWalker ∈ Gw := gw_at 962 (by decide +kernel) rfl
theorem gw_966 : Cond.methodLink RX5 110 yX5_waysFrom ∈ Gw := gw_at 966 (by decide +kernel) rfl
theorem gw_970 : Cond.methodLink RX5 103 yX5_may ∈ Gw := gw_at 970 (by decide +kernel) rfl
theorem gw_974 : Cond.methodLink RL 61 yX5_set ∈ Gw := gw_at 974 (by decide +kernel) rfl
theorem gw_978 : Cond.methodLink RL 66 yX5_wake ∈ Gw := gw_at 978 (by decide +kernel) rfl
theorem gw_982 : Cond.methodLink RL 70 yX5_turn ∈ Gw := gw_at 982 (by decide +kernel) rfl
theorem gw_986 : Cond.methodLink RL 74 yX5_as ∈ Gw := gw_at 986 (by decide +kernel) rfl
theorem gw_990 : Cond.methodLink RX5 113 yX5_isUnder ∈ Gw := gw_at 990 (by decide +kernel) rfl
theorem gw_993 : Cond.methodLink RL 78 yX5_step ∈ Gw := gw_at 993 (by decide +kernel) rfl
theorem gw_997 : Cond.methodLink RX5 136 yX5_stepOf ∈ Gw := gw_at 997 (by decide +kernel) rfl
theorem gw_1001 : Cond.methodLink RX5 116 yX5_turned ∈ Gw := gw_at 1001 (by decide +kernel) rfl
theorem gw_1005 : Cond.methodLink RX5 127 yX5_slopeStep ∈ Gw := gw_at 1005 (by decide +kernel) rfl
theorem gw_1009 : Cond.methodLink RX5 130 yX5_lampStep ∈ Gw := gw_at 1009 (by decide +kernel) rfl
theorem gw_1013 : Cond.methodLink RX5 133 yX5_wanderStep ∈ Gw := gw_at 1013 (by decide +kernel) rfl
theorem gw_1017 : Cond.methodLink RX5 120 yX5_draw ∈ Gw := gw_at 1017 (by decide +kernel) rfl
theorem gw_1022 : Cond.methodLink RX5 124 yX5_ones ∈ Gw := gw_at 1022 (by decide +kernel) rfl
theorem gw_1025 : Cond.methodLink RL 82 yX5_minutes ∈ Gw := gw_at 1025 (by decide +kernel) rfl
theorem gw_1029 : Cond.methodLink RX5 148 yX5_isLate ∈ Gw := gw_at 1029 (by decide +kernel) rfl
theorem gw_1033 : Cond.methodLink RX5 151 yX5_inRiver ∈ Gw := gw_at 1033 (by decide +kernel) rfl
theorem gw_1037 : Cond.methodLink RX5 139 yX5_isIn ∈ Gw := gw_at 1037 (by decide +kernel) rfl
theorem gw_1041 : Cond.methodLink RX5 154 yX5_go ∈ Gw := gw_at 1041 (by decide +kernel) rfl
theorem gw_1045 : Cond.methodLink RX5 145 yX5_minute ∈ Gw := gw_at 1045 (by decide +kernel) rfl
theorem gw_1049 : Cond.methodLink RX5 142 yX5_goes ∈ Gw := gw_at 1049 (by decide +kernel) rfl
theorem gw_1053 : Cond.methodLink RL 86 yX5_bed ∈ Gw := gw_at 1053 (by decide +kernel) rfl
theorem gw_1057 : Cond.methodLink RX5 158 yX5_homeMany ∈ Gw := gw_at 1057 (by decide +kernel) rfl
theorem gw_1061 : Cond.methodLink RL 90 yX5_seed ∈ Gw := gw_at 1061 (by decide +kernel) rfl
theorem gw_1065 : Cond.methodLink RL 94 yX5_now ∈ Gw := gw_at 1065 (by decide +kernel) rfl
theorem gw_1069 : Cond.methodLink RX5 161 yX5_awake ∈ Gw := gw_at 1069 (by decide +kernel) rfl
theorem gw_1073 : Cond.methodLink RL 98 yX5_on ∈ Gw := gw_at 1073 (by decide +kernel) rfl
theorem gw_1077 : Cond.methodLink RX5 164 yX5_lay ∈ Gw := gw_at 1077 (by decide +kernel) rfl
theorem gw_1080 : Cond.methodLink RL 102 yX5_river ∈ Gw := gw_at 1080 (by decide +kernel) rfl
theorem gw_1084 : Cond.methodLink RX5 171 yX5_soonest ∈ Gw := gw_at 1084 (by decide +kernel) rfl
theorem gw_1088 : Cond.methodLink RX5 168 yX5_is ∈ Gw := gw_at 1088 (by decide +kernel) rfl
theorem gw_1092 : Cond.methodLink RL 106 yX5_meet ∈ Gw := gw_at 1092 (by decide +kernel) rfl
theorem gw_1096 : Cond.methodLink RL 110 yX5_home ∈ Gw := gw_at 1096 (by decide +kernel) rfl
theorem gw_1100 : Cond.methodLink RL 114 yX5_safe ∈ Gw := gw_at 1100 (by decide +kernel) rfl
theorem gw_1104 : Cond.methodLink RX5 174 yX5_isSafe ∈ Gw := gw_at 1104 (by decide +kernel) rfl
theorem gw_1108 : Cond.methodLink RL 118 yX5_barred ∈ Gw := gw_at 1108 (by decide +kernel) rfl
theorem gw_1112 : Cond.methodLink RX5 177 yX5_banks ∈ Gw := gw_at 1112 (by decide +kernel) rfl
theorem gw_1116 : Cond.methodLink RX5 180 yX5_isSafeBy ∈ Gw := gw_at 1116 (by decide +kernel) rfl
theorem gw_1120 : Cond.methodLink RL 122 yX5_lamp ∈ Gw := gw_at 1120 (by decide +kernel) rfl
theorem gw_1124 : Cond.methodLink RL 126 yX5_watch ∈ Gw := gw_at 1124 (by decide +kernel) rfl
theorem gw_1128 : Cond.methodLink RL 130 yX5_loop ∈ Gw := gw_at 1128 (by decide +kernel) rfl
theorem gw_1132 : Cond.methodLink RL 135 yX5_odds ∈ Gw := gw_at 1132 (by decide +kernel) rfl
theorem gw_1136 : Cond.methodLink RX5 185 yX5_spreads ∈ Gw := gw_at 1136 (by decide +kernel) rfl
theorem gw_1141 : Cond.methodLink RL 139 yX5_likeliest ∈ Gw := gw_at 1141 (by decide +kernel) rfl
theorem gw_1145 : Cond.methodLink RL 143 yX5_feed ∈ Gw := gw_at 1145 (by decide +kernel) rfl
theorem gw_1149 : Cond.methodLink RL 147 yX5_wipe ∈ Gw := gw_at 1149 (by decide +kernel) rfl
theorem gw_1153 : Cond.methodLink RL 151 yX5_ward ∈ Gw := gw_at 1153 (by decide +kernel) rfl
theorem gw_1157 : Cond.methodLink RX5 311 yX5_item ∈ Gw := gw_at 1157 (by decide +kernel) rfl
theorem gw_1161 : Cond.methodLink RX5 276 yX5_kindName ∈ Gw := gw_at 1161 (by decide +kernel) rfl
theorem gw_1170 : Cond.methodLink RX5 220 yX5_isWord ∈ Gw := gw_at 1170 (by decide +kernel) rfl
theorem gw_1174 : Cond.methodLink RX5 205 yX5_blanks ∈ Gw := gw_at 1174 (by decide +kernel) rfl
theorem gw_1178 : Cond.methodLink RX5 196 yX5_byteAt ∈ Gw := gw_at 1178 (by decide +kernel) rfl
theorem gw_1182 : Cond.methodLink RX5 208 yX5_wordEnd ∈ Gw := gw_at 1182 (by decide +kernel) rfl
theorem gw_1186 : Cond.methodLink RX5 202 yX5_isLetter ∈ Gw := gw_at 1186 (by decide +kernel) rfl
theorem gw_1189 : Cond.methodLink RX5 211 yJ0_length_8abf5 ∈ Gw := gw_at 1189 (by decide +kernel) rfl
theorem gw_1190 : Cond.methodLink RX5 216 yJ0_charAt_5068e ∈ Gw := gw_at 1190 (by decide +kernel) rfl
theorem gw_1191 : Cond.methodLink RX5 226 yX5_fails ∈ Gw := gw_at 1191 (by decide +kernel) rfl
theorem gw_1195 : Cond.methodLink RX5 224 yX5_may_ ∈ Gw := gw_at 1195 (by decide +kernel) rfl
theorem gw_1199 : Cond.methodLink RX5 280 yX5_walkerTold ∈ Gw := gw_at 1199 (by decide +kernel) rfl
theorem gw_1204 : Cond.methodLink RX5 265 yX5_must ∈ Gw := gw_at 1204 (by decide +kernel) rfl
theorem gw_1208 : Cond.methodLink RX5 260 yX5_number ∈ Gw := gw_at 1208 (by decide +kernel) rfl
theorem gw_1212 : Cond.methodLink RX5 230 yX5_isDigit ∈ Gw := gw_at 1212 (by decide +kernel) rfl
theorem gw_1223 : Cond.methodLink RX5 285 yX5_doorTold ∈ Gw := gw_at 1223 (by decide +kernel) rfl
theorem gw_1229 : Cond.methodLink RX5 292 yX5_heightTold ∈ Gw := gw_at 1229 (by decide +kernel) rfl
theorem gw_1234 : Cond.methodLink RX5 297 yX5_markTold ∈ Gw := gw_at 1234 (by decide +kernel) rfl
theorem gw_1242 : Cond.methodLink RX5 308 yX5_roundsTold ∈ Gw := gw_at 1242 (by decide +kernel) rfl
theorem gw_1246 : Cond.methodLink RX5 270 yX5_rest ∈ Gw := gw_at 1246 (by decide +kernel) rfl
theorem gw_1247 : Cond.methodLink RX5 273 yX5_isNumber ∈ Gw := gw_at 1247 (by decide +kernel) rfl
theorem gw_1251 : Cond.methodLink RL 155 yX5_sheet ∈ Gw := gw_at 1251 (by decide +kernel) rfl
theorem gw_1255 : Cond.methodLink RX5 314 yX5_isSheet ∈ Gw := gw_at 1255 (by decide +kernel) rfl
theorem gw_1258 : Cond.methodLink RL 162 yX5_write ∈ Gw := gw_at 1258 (by decide +kernel) rfl
theorem gw_1262 : Cond.methodLink RX5 317 yX5_writes ∈ Gw := gw_at 1262 (by decide +kernel) rfl
theorem gw_1266 : Cond.methodLink RL 167 yX5_copy ∈ Gw := gw_at 1266 (by decide +kernel) rfl
theorem gw_1270 : Cond.methodLink RL 171 yX5_lays ∈ Gw := gw_at 1270 (by decide +kernel) rfl
theorem gw_1275 : Cond.methodLink RL 175 yX5_track ∈ Gw := gw_at 1275 (by decide +kernel) rfl
theorem gw_1279 : Cond.methodLink RL 179 yX5_whose ∈ Gw := gw_at 1279 (by decide +kernel) rfl
theorem gw_1283 : Cond.methodLink RL 183 yX5_image ∈ Gw := gw_at 1283 (by decide +kernel) rfl
theorem gw_1287 : Cond.methodLink RL 187 yX5_undo ∈ Gw := gw_at 1287 (by decide +kernel) rfl
theorem gw_1291 : Cond.methodLink RL 191 yX5_tear ∈ Gw := gw_at 1291 (by decide +kernel) rfl
theorem gw_1295 : Cond.methodLink RL 195 yX5_count ∈ Gw := gw_at 1295 (by decide +kernel) rfl
theorem gw_1299 : Cond.methodLink RX5 327 yX5_sumOf ∈ Gw := gw_at 1299 (by decide +kernel) rfl
theorem gw_1303 : Cond.methodLink RL 199 yX5_status ∈ Gw := gw_at 1303 (by decide +kernel) rfl
end
section
/-! programs as lists, and how they are held against bytes -/
def cs (tg : List Nat) (d : Int) : Int32 := match tg with
  | [k] => nI k
  | [_, _] => -1
  | _ => Int32.ofInt d
def ac (tg : List Nat) (x : Int32) (d : Int) : Int32 := match tg with
  | [k] => x + nI k
  | [_, _] => x + (-1)
  | _ => x + Int32.ofInt d
/-- an entry of a program: instruction, the next place, where it may jump -/
abbrev PE : Type := Instr × Nat × List Nat
abbrev PG : Type := List (Nat × List (Nat × PE))
def il (i : Instr) (d : Nat) : Nat := match i with
  | .iload _ => 2
  | .lload _ => 2
  | .aload _ => 2
  | .istore _ => 2
  | .lstore _ => 2
  | .astore _ => 2
  | .bipush _ => 2
  | .ldc _ => 2
  | .iinc _ _ => 3
  | .sipush _ => 3
  | .ldc_w _ => 3
  | .ldc2_w _ => 3
  | .getstatic _ => 3
  | .getfield _ => 3
  | .putfield _ => 3
  | .invokevirtual _ => 3
  | .invokestatic _ => 3
  | .if_icmp _ _ => 3
  | .ifCond _ _ => 3
  | .goto _ => 3
  | .tableswitch _ _ _ _ => d
  | _ => 1
def tgk (pc : Nat) (i : Instr) (tg : List Nat) : Bool := match i with
  | .if_icmp _ off => decide (tg.map Int.ofNat = [(pc : Int) + off])
  | .ifCond _ off => decide (tg.map Int.ofNat = [(pc : Int) + off])
  | .goto off => decide (tg.map Int.ofNat = [(pc : Int) + off])
  | .tableswitch d lo hi offs => decide (tg.map Int.ofNat = ((pc : Int) + d) :: offs.toList.map (fun o => (pc : Int) + o)) && decide ((offs.toList.length : Int) = hi - lo + 1)
  | .iconst d => decide (Int32.ofInt d = cs tg d)
  | .bipush d => decide ((Int8.ofInt d).toInt32 = cs tg d)
  | .sipush d => decide ((Int16.ofInt d).toInt32 = cs tg d)
  | .iinc _ d => decide (Int32.ofInt d = cs tg d)
  | _ => true
def pk (cc : ByteArray) (pc : Nat) (e : PE) : Prop := decode cc pc = .ok (e.1, il e.1 (e.2.1 - pc)) ∧ e.2.1 = pc + il e.1 (e.2.1 - pc) ∧ tgk pc e.1 e.2.2 = true
def pgk (cc : ByteArray) (P : PG) : Prop := ∀ q ∈ P, ∀ e ∈ q.2, pk cc e.1 e.2
end
section
/-! programs, each held against its bytes -/
def P_X0_isMissing : PG := [(13, [(0, .aload_n 0, 1, []), (1, .getfield 9, 4, []), (4, .ifCond .ne 7, 7, [11]), (7, .iconst 1, 8, [1]), (8, .goto 4, 11, [12]), (11, .iconst 0, 12, [0]), (12, .ireturn, 13, [])])]
theorem pk_X0_isMissing : pgk cX0_isMissing P_X0_isMissing := by unfold pgk pk; decide +kernel
def P_J7_fill_d0a16 : PG := [(22, [(0, .iconst 0, 1, [0]), (1, .istore_n 3, 2, []), (2, .aload_n 0, 3, []), (3, .arraylength, 4, []), (4, .istore 4, 6, []), (6, .iload_n 3, 7, []), (7, .iload 4, 9, []), (9, .if_icmp .ge 13, 12, [22]), (12, .aload_n 0, 13, []), (13, .iload_n 3, 14, []), (14, .lload_n 1, 15, []), (15, .lastore, 16, []), (16, .iinc 3 1, 19, [1]), (19, .goto (-13), 22, [6])]), (23, [(22, .return_, 23, [])])]
theorem pk_J7_fill_d0a16 : pgk cJ7_fill_d0a16 P_J7_fill_d0a16 := by unfold pgk pk; decide +kernel
def P_X0_clear : PG := [(26, [(0, .aload_n 0, 1, []), (1, .iload_n 1, 2, []), (2, .putfield 9, 5, []), (5, .aload_n 0, 6, []), (6, .iload_n 1, 7, []), (7, .ifCond .ne 7, 10, [14]), (10, .iconst 0, 11, [0]), (11, .goto 4, 14, [15]), (14, .iload_n 2, 15, []), (15, .putfield 15, 18, []), (18, .aload_n 0, 19, []), (19, .getfield 18, 22, []), (22, .lconst 0, 23, []), (23, .invokestatic 22, 26, [])]), (27, [(26, .return_, 27, [])])]
theorem pk_X0_clear : pgk cX0_clear P_X0_clear := by unfold pgk pk; decide +kernel
def P_X0_putNumber : PG := [(22, [(0, .aload_n 0, 1, []), (1, .getfield 18, 4, []), (4, .iload_n 1, 5, []), (5, .lload_n 2, 6, []), (6, .bipush 64, 8, [64]), (8, .aload_n 0, 9, []), (9, .getfield 9, 12, []), (12, .isub, 13, []), (13, .lshl, 14, []), (14, .bipush 64, 16, [64]), (16, .aload_n 0, 17, []), (17, .getfield 9, 20, []), (20, .isub, 21, []), (21, .lshr, 22, [])]), (24, [(22, .lastore, 23, []), (23, .return_, 24, [])])]
theorem pk_X0_putNumber : pgk cX0_putNumber P_X0_putNumber := by unfold pgk pk; decide +kernel
def P_X0_hasRun : PG := [(26, [(0, .iload_n 1, 1, []), (1, .ifCond .lt 29, 4, [30]), (4, .iload_n 2, 5, []), (5, .ifCond .lt 25, 8, [30]), (8, .iload_n 2, 9, []), (9, .aload_n 0, 10, []), (10, .getfield 15, 13, []), (13, .if_icmp .gt 17, 16, [30]), (16, .iload_n 1, 17, []), (17, .aload_n 0, 18, []), (18, .getfield 15, 21, []), (21, .iload_n 2, 22, []), (22, .isub, 23, []), (23, .if_icmp .gt 7, 26, [30])]), (32, [(26, .iconst 1, 27, [1]), (27, .goto 4, 30, [31]), (30, .iconst 0, 31, [0]), (31, .ireturn, 32, [])])]
theorem pk_X0_hasRun : pgk cX0_hasRun P_X0_hasRun := by unfold pgk pk; decide +kernel
def P_X1_addByte : PG := [(22, [(0, .aload_n 0, 1, []), (1, .getfield 9, 4, []), (4, .aload_n 0, 5, []), (5, .getfield 15, 8, []), (8, .iload_n 1, 9, []), (9, .i2b, 10, []), (10, .bastore, 11, []), (11, .aload_n 0, 12, []), (12, .dup, 13, []), (13, .getfield 15, 16, []), (16, .iconst 1, 17, [1]), (17, .iadd, 18, []), (18, .putfield 15, 21, []), (21, .return_, 22, [])])]
theorem pk_X1_addByte : pgk cX1_addByte P_X1_addByte := by unfold pgk pk; decide +kernel
def P_X1_isLetter : PG := [(18, [(0, .iload_n 0, 1, []), (1, .bipush 97, 3, [97]), (3, .if_icmp .lt 13, 6, [16]), (6, .iload_n 0, 7, []), (7, .bipush 122, 9, [122]), (9, .if_icmp .gt 7, 12, [16]), (12, .iconst 1, 13, [1]), (13, .goto 4, 16, [17]), (16, .iconst 0, 17, [0]), (17, .ireturn, 18, [])])]
theorem pk_X1_isLetter : pgk cX1_isLetter P_X1_isLetter := by unfold pgk pk; decide +kernel
def P_X1_isDigit : PG := [(18, [(0, .iload_n 0, 1, []), (1, .bipush 48, 3, [48]), (3, .if_icmp .lt 13, 6, [16]), (6, .iload_n 0, 7, []), (7, .bipush 57, 9, [57]), (9, .if_icmp .gt 7, 12, [16]), (12, .iconst 1, 13, [1]), (13, .goto 4, 16, [17]), (16, .iconst 0, 17, [0]), (17, .ireturn, 18, [])])]
theorem pk_X1_isDigit : pgk cX1_isDigit P_X1_isDigit := by unfold pgk pk; decide +kernel
def P_X1_nextToken : PG := [(28, [(0, .aload_n 0, 1, []), (1, .aload_n 0, 2, []), (2, .getfield 28, 5, []), (5, .putfield 25, 8, []), (8, .aload_n 0, 9, []), (9, .getfield 25, 12, []), (12, .aload_n 0, 13, []), (13, .getfield 15, 16, []), (16, .if_icmp .ge 30, 19, [46]), (19, .aload_n 0, 20, []), (20, .getfield 9, 23, []), (23, .aload_n 0, 24, []), (24, .getfield 25, 27, []), (27, .baload, 28, [])]), (55, [(28, .bipush 32, 30, [32]), (30, .if_icmp .ne 16, 33, [46]), (33, .aload_n 0, 34, []), (34, .dup, 35, []), (35, .getfield 25, 38, []), (38, .iconst 1, 39, [1]), (39, .iadd, 40, []), (40, .putfield 25, 43, []), (43, .goto (-35), 46, [8]), (46, .aload_n 0, 47, []), (47, .aload_n 0, 48, []), (48, .getfield 25, 51, []), (51, .putfield 28, 54, []), (54, .aload_n 0, 55, [])]), (83, [(55, .iconst 0, 56, [0]), (56, .putfield 31, 59, []), (59, .aload_n 0, 60, []), (60, .getfield 25, 63, []), (63, .aload_n 0, 64, []), (64, .getfield 15, 67, []), (67, .if_icmp .lt 11, 70, [78]), (70, .aload_n 0, 71, []), (71, .iconst 0, 72, [0]), (72, .putfield 22, 75, []), (75, .goto 184, 78, [259]), (78, .aload_n 0, 79, []), (79, .getfield 9, 82, []), (82, .aload_n 0, 83, [])]), (113, [(83, .getfield 25, 86, []), (86, .baload, 87, []), (87, .invokestatic 152, 90, []), (90, .ifCond .eq 47, 93, [137]), (93, .aload_n 0, 94, []), (94, .iconst 1, 95, [1]), (95, .putfield 22, 98, []), (98, .aload_n 0, 99, []), (99, .getfield 28, 102, []), (102, .aload_n 0, 103, []), (103, .getfield 15, 106, []), (106, .if_icmp .ge 153, 109, [259]), (109, .aload_n 0, 110, []), (110, .getfield 9, 113, [])]), (141, [(113, .aload_n 0, 114, []), (114, .getfield 28, 117, []), (117, .baload, 118, []), (118, .invokestatic 152, 121, []), (121, .ifCond .eq 138, 124, [259]), (124, .aload_n 0, 125, []), (125, .dup, 126, []), (126, .getfield 28, 129, []), (129, .iconst 1, 130, [1]), (130, .iadd, 131, []), (131, .putfield 28, 134, []), (134, .goto (-36), 137, [98]), (137, .aload_n 0, 138, []), (138, .getfield 9, 141, [])]), (169, [(141, .aload_n 0, 142, []), (142, .getfield 25, 145, []), (145, .baload, 146, []), (146, .invokestatic 156, 149, []), (149, .ifCond .eq 77, 152, [226]), (152, .aload_n 0, 153, []), (153, .iconst 2, 154, [2]), (154, .putfield 22, 157, []), (157, .aload_n 0, 158, []), (158, .getfield 28, 161, []), (161, .aload_n 0, 162, []), (162, .getfield 15, 165, []), (165, .if_icmp .ge 94, 168, [259]), (168, .aload_n 0, 169, [])]), (198, [(169, .getfield 9, 172, []), (172, .aload_n 0, 173, []), (173, .getfield 28, 176, []), (176, .baload, 177, []), (177, .invokestatic 156, 180, []), (180, .ifCond .eq 79, 183, [259]), (183, .aload_n 0, 184, []), (184, .sipush 10000, 187, [10000]), (187, .aload_n 0, 188, []), (188, .getfield 31, 191, []), (191, .bipush 10, 193, [10]), (193, .imul, 194, []), (194, .aload_n 0, 195, []), (195, .getfield 9, 198, [])]), (223, [(198, .aload_n 0, 199, []), (199, .getfield 28, 202, []), (202, .baload, 203, []), (203, .iadd, 204, []), (204, .bipush 48, 206, [48]), (206, .isub, 207, []), (207, .invokestatic 159, 210, []), (210, .putfield 31, 213, []), (213, .aload_n 0, 214, []), (214, .dup, 215, []), (215, .getfield 28, 218, []), (218, .iconst 1, 219, [1]), (219, .iadd, 220, []), (220, .putfield 28, 223, [])]), (250, [(223, .goto (-66), 226, [157]), (226, .aload_n 0, 227, []), (227, .aload_n 0, 228, []), (228, .getfield 9, 231, []), (231, .aload_n 0, 232, []), (232, .getfield 25, 235, []), (235, .baload, 236, []), (236, .bipush 59, 238, [59]), (238, .if_icmp .ne 7, 241, [245]), (241, .iconst 3, 242, [3]), (242, .goto 4, 245, [246]), (245, .iconst 4, 246, [4]), (246, .putfield 22, 249, []), (249, .aload_n 0, 250, [])]), (260, [(250, .dup, 251, []), (251, .getfield 28, 254, []), (254, .iconst 1, 255, [1]), (255, .iadd, 256, []), (256, .putfield 28, 259, []), (259, .return_, 260, [])])]
theorem pk_X1_nextToken : pgk cX1_nextToken P_X1_nextToken := by unfold pgk pk; decide +kernel
def P_J0_coder_7d493 : PG := [(15, [(0, .getstatic 38, 3, []), (3, .ifCond .eq 10, 6, [13]), (6, .aload_n 0, 7, []), (7, .getfield 15, 10, []), (10, .goto 4, 13, [14]), (13, .iconst 1, 14, [1]), (14, .ireturn, 15, [])])]
theorem pk_J0_coder_7d493 : pgk cJ0_coder_7d493 P_J0_coder_7d493 := by unfold pgk pk; decide +kernel
def P_J0_length_8abf5 : PG := [(11, [(0, .aload_n 0, 1, []), (1, .getfield 9, 4, []), (4, .arraylength, 5, []), (5, .aload_n 0, 6, []), (6, .invokevirtual 335, 9, []), (9, .ishr, 10, []), (10, .ireturn, 11, [])])]
theorem pk_J0_length_8abf5 : pgk cJ0_length_8abf5 P_J0_length_8abf5 := by unfold pgk pk; decide +kernel
def P_J0_isLatin1_aae02 : PG := [(19, [(0, .getstatic 38, 3, []), (3, .ifCond .eq 14, 6, [17]), (6, .aload_n 0, 7, []), (7, .getfield 15, 10, []), (10, .ifCond .ne 7, 13, [17]), (13, .iconst 1, 14, [1]), (14, .goto 4, 17, [18]), (17, .iconst 0, 18, [0]), (18, .ireturn, 19, [])])]
theorem pk_J0_isLatin1_aae02 : pgk cJ0_isLatin1_aae02 P_J0_isLatin1_aae02 := by unfold pgk pk; decide +kernel
def P_J3_checkIndex_8e157 : PG := [(18, [(0, .iload_n 0, 1, []), (1, .ifCond .lt 8, 4, [9]), (4, .iload_n 0, 5, []), (5, .iload_n 1, 6, []), (6, .if_icmp .lt 10, 9, [16]), (9, .aload_n 2, 10, []), (10, .iload_n 0, 11, []), (11, .iload_n 1, 12, []), (12, .invokestatic 95, 15, []), (15, .athrow, 16, []), (16, .iload_n 0, 17, []), (17, .ireturn, 18, [])])]
theorem pk_J3_checkIndex_8e157 : pgk cJ3_checkIndex_8e157 P_J3_checkIndex_8e157 := by unfold pgk pk; decide +kernel
def P_J0_checkIndex_df160 : PG := [(10, [(0, .iload_n 0, 1, []), (1, .iload_n 1, 2, []), (2, .getstatic 1053, 5, []), (5, .invokestatic 1059, 8, []), (8, .pop, 9, []), (9, .return_, 10, [])])]
theorem pk_J0_checkIndex_df160 : pgk cJ0_checkIndex_df160 P_J0_checkIndex_df160 := by unfold pgk pk; decide +kernel
def P_J1_charAt_3b067 : PG := [(15, [(0, .iload_n 1, 1, []), (1, .aload_n 0, 2, []), (2, .arraylength, 3, []), (3, .invokestatic 9, 6, []), (6, .aload_n 0, 7, []), (7, .iload_n 1, 8, []), (8, .baload, 9, []), (9, .sipush 255, 12, [255]), (12, .iand, 13, []), (13, .i2c, 14, []), (14, .ireturn, 15, [])])]
theorem pk_J1_charAt_3b067 : pgk cJ1_charAt_3b067 P_J1_charAt_3b067 := by unfold pgk pk; decide +kernel
def P_J0_charAt_5068e : PG := [(25, [(0, .aload_n 0, 1, []), (1, .invokevirtual 492, 4, []), (4, .ifCond .eq 12, 7, [16]), (7, .aload_n 0, 8, []), (8, .getfield 9, 11, []), (11, .iload_n 1, 12, []), (12, .invokestatic 495, 15, []), (15, .ireturn, 16, []), (16, .aload_n 0, 17, []), (17, .getfield 9, 20, []), (20, .iload_n 1, 21, []), (21, .invokestatic 498, 24, []), (24, .ireturn, 25, [])])]
theorem pk_J0_charAt_5068e : pgk cJ0_charAt_5068e P_J0_charAt_5068e := by unfold pgk pk; decide +kernel
def P_X1_isWord : PG := [(26, [(0, .aload_n 0, 1, []), (1, .getfield 22, 4, []), (4, .iconst 1, 5, [1]), (5, .if_icmp .ne 19, 8, [24]), (8, .aload_n 0, 9, []), (9, .getfield 28, 12, []), (12, .aload_n 0, 13, []), (13, .getfield 25, 16, []), (16, .isub, 17, []), (17, .aload_n 1, 18, []), (18, .invokevirtual 144, 21, []), (21, .if_icmp .eq 5, 24, [26]), (24, .iconst 0, 25, [0]), (25, .ireturn, 26, [])]), (48, [(26, .iconst 0, 27, [0]), (27, .istore_n 2, 28, []), (28, .iload_n 2, 29, []), (29, .aload_n 1, 30, []), (30, .invokevirtual 144, 33, []), (33, .if_icmp .ge 30, 36, [63]), (36, .aload_n 0, 37, []), (37, .getfield 9, 40, []), (40, .aload_n 0, 41, []), (41, .getfield 25, 44, []), (44, .iload_n 2, 45, []), (45, .iadd, 46, []), (46, .baload, 47, []), (47, .aload_n 1, 48, [])]), (65, [(48, .iload_n 2, 49, []), (49, .invokevirtual 148, 52, []), (52, .if_icmp .eq 5, 55, [57]), (55, .iconst 0, 56, [0]), (56, .ireturn, 57, []), (57, .iinc 2 1, 60, [1]), (60, .goto (-32), 63, [28]), (63, .iconst 1, 64, [1]), (64, .ireturn, 65, [])])]
theorem pk_X1_isWord : pgk cX1_isWord P_X1_isWord := by unfold pgk pk; decide +kernel
def P_X1_takesWord : PG := [(16, [(0, .aload_n 0, 1, []), (1, .aload_n 1, 2, []), (2, .invokevirtual 129, 5, []), (5, .ifCond .ne 5, 8, [10]), (8, .iconst 0, 9, [0]), (9, .ireturn, 10, []), (10, .aload_n 0, 11, []), (11, .invokevirtual 34, 14, []), (14, .iconst 1, 15, [1]), (15, .ireturn, 16, [])])]
theorem pk_X1_takesWord : pgk cX1_takesWord P_X1_takesWord := by unfold pgk pk; decide +kernel
def P_X1_takeNumber : PG := [(26, [(0, .aload_n 0, 1, []), (1, .getfield 22, 4, []), (4, .iconst 2, 5, [2]), (5, .if_icmp .ne 11, 8, [16]), (8, .aload_n 0, 9, []), (9, .getfield 31, 12, []), (12, .iload_n 1, 13, []), (13, .if_icmp .le 13, 16, [26]), (16, .aload_n 0, 17, []), (17, .aload_n 0, 18, []), (18, .getfield 25, 21, []), (21, .putfield 19, 24, []), (24, .iconst (-1), 25, [1, 1]), (25, .ireturn, 26, [])]), (37, [(26, .aload_n 0, 27, []), (27, .getfield 31, 30, []), (30, .istore_n 2, 31, []), (31, .aload_n 0, 32, []), (32, .invokevirtual 34, 35, []), (35, .iload_n 2, 36, []), (36, .ireturn, 37, [])])]
theorem pk_X1_takeNumber : pgk cX1_takeNumber P_X1_takeNumber := by unfold pgk pk; decide +kernel
def P_X4_isWithin : PG := [(16, [(0, .iload_n 0, 1, []), (1, .iload_n 1, 2, []), (2, .if_icmp .lt 12, 5, [14]), (5, .iload_n 0, 6, []), (6, .iload_n 2, 7, []), (7, .if_icmp .gt 7, 10, [14]), (10, .iconst 1, 11, [1]), (11, .goto 4, 14, [15]), (14, .iconst 0, 15, [0]), (15, .ireturn, 16, [])])]
theorem pk_X4_isWithin : pgk cX4_isWithin P_X4_isWithin := by unfold pgk pk; decide +kernel
def P_X4_isSquare : PG := [(8, [(0, .iload_n 0, 1, []), (1, .iconst 0, 2, [0]), (2, .bipush 24, 4, [24]), (4, .invokestatic 78, 7, []), (7, .ireturn, 8, [])])]
theorem pk_X4_isSquare : pgk cX4_isSquare P_X4_isSquare := by unfold pgk pk; decide +kernel
def P_X3_squareBeside : PG := [(44, [(0, .iload_n 1, 1, []), (1, .tableswitch 69 0 2 #[27, 40, 55], 28, [70, 28, 41, 56]), (28, .iload_n 0, 29, []), (29, .iconst 5, 30, [5]), (30, .if_icmp .lt 9, 33, [39]), (33, .iload_n 0, 34, []), (34, .iconst 5, 35, [5]), (35, .isub, 36, []), (36, .goto 4, 39, [40]), (39, .iconst (-1), 40, [1, 1]), (40, .ireturn, 41, []), (41, .iload_n 0, 42, []), (42, .iconst 5, 43, [5]), (43, .irem, 44, [])]), (65, [(44, .iconst 4, 45, [4]), (45, .if_icmp .ge 9, 48, [54]), (48, .iload_n 0, 49, []), (49, .iconst 1, 50, [1]), (50, .iadd, 51, []), (51, .goto 4, 54, [55]), (54, .iconst (-1), 55, [1, 1]), (55, .ireturn, 56, []), (56, .iload_n 0, 57, []), (57, .bipush 20, 59, [20]), (59, .if_icmp .ge 9, 62, [68]), (62, .iload_n 0, 63, []), (63, .iconst 5, 64, [5]), (64, .iadd, 65, [])]), (84, [(65, .goto 4, 68, [69]), (68, .iconst (-1), 69, [1, 1]), (69, .ireturn, 70, []), (70, .iload_n 0, 71, []), (71, .iconst 5, 72, [5]), (72, .irem, 73, []), (73, .ifCond .le 9, 76, [82]), (76, .iload_n 0, 77, []), (77, .iconst 1, 78, [1]), (78, .isub, 79, []), (79, .goto 4, 82, [83]), (82, .iconst (-1), 83, [1, 1]), (83, .ireturn, 84, [])])]
theorem pk_X3_squareBeside : pgk cX3_squareBeside P_X3_squareBeside := by unfold pgk pk; decide +kernel
def P_X3_doorBetween : PG := [(24, [(0, .iload_n 0, 1, []), (1, .invokestatic 73, 4, []), (4, .ifCond .eq 10, 7, [14]), (7, .iload_n 1, 8, []), (8, .invokestatic 73, 11, []), (11, .ifCond .ne 5, 14, [16]), (14, .iconst (-1), 15, [1, 1]), (15, .ireturn, 16, []), (16, .iload_n 0, 17, []), (17, .iload_n 1, 18, []), (18, .invokestatic 77, 21, []), (21, .istore_n 2, 22, []), (22, .iload_n 0, 23, []), (23, .iload_n 1, 24, [])]), (46, [(24, .invokestatic 83, 27, []), (27, .istore_n 3, 28, []), (28, .iload_n 2, 29, []), (29, .iconst 1, 30, [1]), (30, .invokestatic 86, 33, []), (33, .iload_n 3, 34, []), (34, .if_icmp .ne 7, 37, [41]), (37, .iconst 2, 38, [2]), (38, .iload_n 2, 39, []), (39, .imul, 40, []), (40, .ireturn, 41, []), (41, .iload_n 2, 42, []), (42, .iconst 2, 43, [2]), (43, .invokestatic 86, 46, [])]), (60, [(46, .iload_n 3, 47, []), (47, .if_icmp .ne 11, 50, [58]), (50, .iconst 2, 51, [2]), (51, .iload_n 2, 52, []), (52, .imul, 53, []), (53, .iconst 1, 54, [1]), (54, .iadd, 55, []), (55, .goto 4, 58, [59]), (58, .iconst (-1), 59, [1, 1]), (59, .ireturn, 60, [])])]
theorem pk_X3_doorBetween : pgk cX3_doorBetween P_X3_doorBetween := by unfold pgk pk; decide +kernel
def P_X3_isShut : PG := [(19, [(0, .aload_n 0, 1, []), (1, .getfield 9, 4, []), (4, .iload_n 1, 5, []), (5, .lushr, 6, []), (6, .lconst 1, 7, []), (7, .land, 8, []), (8, .lconst 0, 9, []), (9, .lcmp, 10, []), (10, .ifCond .eq 7, 13, [17]), (13, .iconst 1, 14, [1]), (14, .goto 4, 17, [18]), (17, .iconst 0, 18, [0]), (18, .ireturn, 19, [])])]
theorem pk_X3_isShut : pgk cX3_isShut P_X3_isShut := by unfold pgk pk; decide +kernel
def P_X3_putDoor : PG := [(24, [(0, .aload_n 0, 1, []), (1, .iload_n 1, 2, []), (2, .invokevirtual 89, 5, []), (5, .iload_n 2, 6, []), (6, .if_icmp .ne 7, 9, [13]), (9, .iconst 1, 10, [1]), (10, .goto 4, 13, [14]), (13, .iconst 0, 14, [0]), (14, .istore_n 3, 15, []), (15, .aload_n 0, 16, []), (16, .iload_n 2, 17, []), (17, .ifCond .eq 18, 20, [35]), (20, .aload_n 0, 21, []), (21, .getfield 9, 24, [])]), (46, [(24, .lconst 1, 25, []), (25, .iload_n 1, 26, []), (26, .lshl, 27, []), (27, .ldc2_w 92, 30, []), (30, .lxor, 31, []), (31, .land, 32, []), (32, .goto 11, 35, [43]), (35, .aload_n 0, 36, []), (36, .getfield 9, 39, []), (39, .lconst 1, 40, []), (40, .iload_n 1, 41, []), (41, .lshl, 42, []), (42, .lor, 43, []), (43, .putfield 9, 46, [])]), (48, [(46, .iload_n 3, 47, []), (47, .ireturn, 48, [])])]
theorem pk_X3_putDoor : pgk cX3_putDoor P_X3_putDoor := by unfold pgk pk; decide +kernel
def P_X1_readDoor : PG := [(25, [(0, .aload_n 0, 1, []), (1, .bipush 24, 3, [24]), (3, .invokevirtual 60, 6, []), (6, .istore_n 3, 7, []), (7, .iload_n 3, 8, []), (8, .ifCond .ge 4, 11, [12]), (11, .return_, 12, []), (12, .aload_n 0, 13, []), (13, .getfield 22, 16, []), (16, .iconst 2, 17, [2]), (17, .if_icmp .ne 14, 20, [31]), (20, .iload_n 3, 21, []), (21, .aload_n 0, 22, []), (22, .getfield 31, 25, [])]), (53, [(25, .invokestatic 89, 28, []), (28, .goto 4, 31, [32]), (31, .iconst (-1), 32, [1, 1]), (32, .istore 4, 34, []), (34, .iload 4, 36, []), (36, .ifCond .ge 12, 39, [48]), (39, .aload_n 0, 40, []), (40, .aload_n 0, 41, []), (41, .getfield 25, 44, []), (44, .putfield 19, 47, []), (47, .return_, 48, []), (48, .aload_n 0, 49, []), (49, .invokevirtual 34, 52, []), (52, .aload_n 1, 53, [])]), (61, [(53, .iload 4, 55, []), (55, .iload_n 2, 56, []), (56, .invokevirtual 93, 59, []), (59, .pop, 60, []), (60, .return_, 61, [])])]
theorem pk_X1_readDoor : pgk cX1_readDoor P_X1_readDoor := by unfold pgk pk; decide +kernel
def P_X1_readHeight : PG := [(24, [(0, .aload_n 0, 1, []), (1, .bipush 24, 3, [24]), (3, .invokevirtual 60, 6, []), (6, .istore_n 2, 7, []), (7, .iload_n 2, 8, []), (8, .ifCond .ge 4, 11, [12]), (11, .return_, 12, []), (12, .aload_n 0, 13, []), (13, .bipush 9, 15, [9]), (15, .invokevirtual 60, 18, []), (18, .istore_n 3, 19, []), (19, .iload_n 3, 20, []), (20, .ifCond .lt 10, 23, [30]), (23, .aload_n 1, 24, [])]), (31, [(24, .getfield 96, 27, []), (27, .iload_n 2, 28, []), (28, .iload_n 3, 29, []), (29, .iastore, 30, []), (30, .return_, 31, [])])]
theorem pk_X1_readHeight : pgk cX1_readHeight P_X1_readHeight := by unfold pgk pk; decide +kernel
def P_X3_hasLamp : PG := [(17, [(0, .aload_n 0, 1, []), (1, .getfield 19, 4, []), (4, .iload_n 1, 5, []), (5, .ishr, 6, []), (6, .iconst 1, 7, [1]), (7, .iand, 8, []), (8, .ifCond .eq 7, 11, [15]), (11, .iconst 1, 12, [1]), (12, .goto 4, 15, [16]), (15, .iconst 0, 16, [0]), (16, .ireturn, 17, [])])]
theorem pk_X3_hasLamp : pgk cX3_hasLamp P_X3_hasLamp := by unfold pgk pk; decide +kernel
def P_X3_putLamp : PG := [(24, [(0, .aload_n 0, 1, []), (1, .iload_n 1, 2, []), (2, .invokevirtual 94, 5, []), (5, .iload_n 2, 6, []), (6, .if_icmp .eq 7, 9, [13]), (9, .iconst 1, 10, [1]), (10, .goto 4, 13, [14]), (13, .iconst 0, 14, [0]), (14, .istore_n 3, 15, []), (15, .aload_n 0, 16, []), (16, .iload_n 2, 17, []), (17, .ifCond .eq 14, 20, [31]), (20, .aload_n 0, 21, []), (21, .getfield 19, 24, [])]), (44, [(24, .iconst 1, 25, [1]), (25, .iload_n 1, 26, []), (26, .ishl, 27, []), (27, .ior, 28, []), (28, .goto 13, 31, [41]), (31, .aload_n 0, 32, []), (32, .getfield 19, 35, []), (35, .iconst 1, 36, [1]), (36, .iload_n 1, 37, []), (37, .ishl, 38, []), (38, .iconst (-1), 39, [1, 1]), (39, .ixor, 40, []), (40, .iand, 41, []), (41, .putfield 19, 44, [])]), (46, [(44, .iload_n 3, 45, []), (45, .ireturn, 46, [])])]
theorem pk_X3_putLamp : pgk cX3_putLamp P_X3_putLamp := by unfold pgk pk; decide +kernel
def P_X3_isRiver : PG := [(17, [(0, .aload_n 0, 1, []), (1, .getfield 23, 4, []), (4, .iload_n 1, 5, []), (5, .ishr, 6, []), (6, .iconst 1, 7, [1]), (7, .iand, 8, []), (8, .ifCond .eq 7, 11, [15]), (11, .iconst 1, 12, [1]), (12, .goto 4, 15, [16]), (15, .iconst 0, 16, [0]), (16, .ireturn, 17, [])])]
theorem pk_X3_isRiver : pgk cX3_isRiver P_X3_isRiver := by unfold pgk pk; decide +kernel
def P_X3_putRiver : PG := [(24, [(0, .aload_n 0, 1, []), (1, .iload_n 1, 2, []), (2, .invokevirtual 97, 5, []), (5, .iload_n 2, 6, []), (6, .if_icmp .eq 7, 9, [13]), (9, .iconst 1, 10, [1]), (10, .goto 4, 13, [14]), (13, .iconst 0, 14, [0]), (14, .istore_n 3, 15, []), (15, .aload_n 0, 16, []), (16, .iload_n 2, 17, []), (17, .ifCond .eq 14, 20, [31]), (20, .aload_n 0, 21, []), (21, .getfield 23, 24, [])]), (44, [(24, .iconst 1, 25, [1]), (25, .iload_n 1, 26, []), (26, .ishl, 27, []), (27, .ior, 28, []), (28, .goto 13, 31, [41]), (31, .aload_n 0, 32, []), (32, .getfield 23, 35, []), (35, .iconst 1, 36, [1]), (36, .iload_n 1, 37, []), (37, .ishl, 38, []), (38, .iconst (-1), 39, [1, 1]), (39, .ixor, 40, []), (40, .iand, 41, []), (41, .putfield 23, 44, [])]), (46, [(44, .iload_n 3, 45, []), (45, .ireturn, 46, [])])]
theorem pk_X3_putRiver : pgk cX3_putRiver P_X3_putRiver := by unfold pgk pk; decide +kernel
def P_X1_readRiver : PG := [(19, [(0, .aload_n 0, 1, []), (1, .bipush 24, 3, [24]), (3, .invokevirtual 60, 6, []), (6, .istore_n 3, 7, []), (7, .iload_n 3, 8, []), (8, .ifCond .lt 10, 11, [18]), (11, .aload_n 1, 12, []), (12, .iload_n 3, 13, []), (13, .iload_n 2, 14, []), (14, .invokevirtual 100, 17, []), (17, .pop, 18, []), (18, .return_, 19, [])])]
theorem pk_X1_readRiver : pgk cX1_readRiver P_X1_readRiver := by unfold pgk pk; decide +kernel
def P_X3_emptyRounds : PG := [(11, [(0, .aload_n 0, 1, []), (1, .iconst 0, 2, [0]), (2, .putfield 41, 5, []), (5, .aload_n 0, 6, []), (6, .iconst (-1), 7, [1, 1]), (7, .putfield 44, 10, []), (10, .return_, 11, [])])]
theorem pk_X3_emptyRounds : pgk cX3_emptyRounds P_X3_emptyRounds := by unfold pgk pk; decide +kernel
def P_X3_addRound : PG := [(21, [(0, .aload_n 0, 1, []), (1, .getfield 38, 4, []), (4, .aload_n 0, 5, []), (5, .getfield 41, 8, []), (8, .iload_n 1, 9, []), (9, .iastore, 10, []), (10, .aload_n 0, 11, []), (11, .dup, 12, []), (12, .getfield 41, 15, []), (15, .iconst 1, 16, [1]), (16, .iadd, 17, []), (17, .putfield 41, 20, []), (20, .return_, 21, [])])]
theorem pk_X3_addRound : pgk cX3_addRound P_X3_addRound := by unfold pgk pk; decide +kernel
def P_X1_readRounds : PG := [(25, [(0, .aload_n 1, 1, []), (1, .invokevirtual 103, 4, []), (4, .iconst 0, 5, [0]), (5, .istore_n 2, 6, []), (6, .iload_n 2, 7, []), (7, .bipush 12, 9, [12]), (9, .if_icmp .ge 38, 12, [47]), (12, .iload_n 2, 13, []), (13, .ifCond .eq 11, 16, [24]), (16, .aload_n 0, 17, []), (17, .getfield 22, 20, []), (20, .iconst 2, 21, [2]), (21, .if_icmp .ne 26, 24, [47]), (24, .aload_n 0, 25, [])]), (48, [(25, .bipush 24, 27, [24]), (27, .invokevirtual 60, 30, []), (30, .istore_n 3, 31, []), (31, .iload_n 3, 32, []), (32, .ifCond .ge 4, 35, [36]), (35, .return_, 36, []), (36, .aload_n 1, 37, []), (37, .iload_n 3, 38, []), (38, .invokevirtual 106, 41, []), (41, .iinc 2 1, 44, [1]), (44, .goto (-38), 47, [6]), (47, .return_, 48, [])])]
theorem pk_X1_readRounds : pgk cX1_readRounds P_X1_readRounds := by unfold pgk pk; decide +kernel
def P_X1_nameOf : PG := [(54, [(0, .iload_n 0, 1, []), (1, .tableswitch 50 1 5 #[35, 38, 41, 44, 47], 36, [51, 36, 39, 42, 45, 48]), (36, .ldc 132, 38, []), (38, .areturn, 39, []), (39, .ldc 134, 41, []), (41, .areturn, 42, []), (42, .ldc 136, 44, []), (44, .areturn, 45, []), (45, .ldc 138, 47, []), (47, .areturn, 48, []), (48, .ldc 140, 50, []), (50, .areturn, 51, []), (51, .ldc 142, 53, []), (53, .areturn, 54, [])])]
theorem pk_X1_nameOf : pgk cX1_nameOf P_X1_nameOf := by unfold pgk pk; decide +kernel
def P_X1_kindOfWord : PG := [(27, [(0, .iconst 0, 1, [0]), (1, .istore_n 1, 2, []), (2, .iload_n 1, 3, []), (3, .bipush 6, 5, [6]), (5, .if_icmp .ge 22, 8, [27]), (8, .aload_n 0, 9, []), (9, .iload_n 1, 10, []), (10, .invokestatic 125, 13, []), (13, .invokevirtual 129, 16, []), (16, .ifCond .eq 5, 19, [21]), (19, .iload_n 1, 20, []), (20, .ireturn, 21, []), (21, .iinc 1 1, 24, [1]), (24, .goto (-22), 27, [2])]), (29, [(27, .iconst (-1), 28, [1, 1]), (28, .ireturn, 29, [])])]
theorem pk_X1_kindOfWord : pgk cX1_kindOfWord P_X1_kindOfWord := by unfold pgk pk; decide +kernel
def P_X3_addWalker : PG := [(26, [(0, .aload_n 0, 1, []), (1, .getfield 49, 4, []), (4, .aload_n 0, 5, []), (5, .getfield 53, 8, []), (8, .aaload, 9, []), (9, .astore 4, 11, []), (11, .aload 4, 13, []), (13, .iload_n 1, 14, []), (14, .putfield 100, 17, []), (17, .aload 4, 19, []), (19, .iload_n 2, 20, []), (20, .putfield 103, 23, []), (23, .aload 4, 25, []), (25, .iload_n 2, 26, [])]), (52, [(26, .putfield 106, 29, []), (29, .aload 4, 31, []), (31, .iload_n 3, 32, []), (32, .putfield 109, 35, []), (35, .aload 4, 37, []), (37, .iconst 0, 38, [0]), (38, .putfield 112, 41, []), (41, .aload_n 0, 42, []), (42, .dup, 43, []), (43, .getfield 53, 46, []), (46, .iconst 1, 47, [1]), (47, .iadd, 48, []), (48, .putfield 53, 51, []), (51, .return_, 52, [])])]
theorem pk_X3_addWalker : pgk cX3_addWalker P_X3_addWalker := by unfold pgk pk; decide +kernel
def P_X1_readWalker : PG := [(27, [(0, .aload_n 0, 1, []), (1, .invokevirtual 110, 4, []), (4, .istore_n 2, 5, []), (5, .iload_n 2, 6, []), (6, .ifCond .lt 12, 9, [18]), (9, .aload_n 1, 10, []), (10, .getfield 114, 13, []), (13, .bipush 8, 15, [8]), (15, .if_icmp .lt 12, 18, [27]), (18, .aload_n 0, 19, []), (19, .aload_n 0, 20, []), (20, .getfield 25, 23, []), (23, .putfield 19, 26, []), (26, .return_, 27, [])]), (55, [(27, .aload_n 0, 28, []), (28, .invokevirtual 34, 31, []), (31, .aload_n 0, 32, []), (32, .ldc 117, 34, []), (34, .invokevirtual 43, 37, []), (37, .ifCond .ne 12, 40, [49]), (40, .aload_n 0, 41, []), (41, .aload_n 0, 42, []), (42, .getfield 25, 45, []), (45, .putfield 19, 48, []), (48, .return_, 49, []), (49, .aload_n 0, 50, []), (50, .bipush 24, 52, [24]), (52, .invokevirtual 60, 55, [])]), (81, [(55, .istore_n 3, 56, []), (56, .iload_n 3, 57, []), (57, .ifCond .ge 4, 60, [61]), (60, .return_, 61, []), (61, .aload_n 0, 62, []), (62, .ldc 119, 64, []), (64, .invokevirtual 43, 67, []), (67, .ifCond .eq 11, 70, [78]), (70, .aload_n 0, 71, []), (71, .iconst 3, 72, [3]), (72, .invokevirtual 60, 75, []), (75, .goto 4, 78, [79]), (78, .iconst 0, 79, [0]), (79, .istore 4, 81, [])]), (95, [(81, .iload 4, 83, []), (83, .ifCond .lt 11, 86, [94]), (86, .aload_n 1, 87, []), (87, .iload_n 2, 88, []), (88, .iload_n 3, 89, []), (89, .iload 4, 91, []), (91, .invokevirtual 121, 94, []), (94, .return_, 95, [])])]
theorem pk_X1_readWalker : pgk cX1_readWalker P_X1_readWalker := by unfold pgk pk; decide +kernel
def P_X1_readItem : PG := [(28, [(0, .aload_n 0, 1, []), (1, .ldc 41, 3, []), (3, .invokevirtual 43, 6, []), (6, .ifCond .eq 12, 9, [18]), (9, .aload_n 0, 10, []), (10, .aload_n 1, 11, []), (11, .iconst 0, 12, [0]), (12, .invokevirtual 47, 15, []), (15, .goto 153, 18, [168]), (18, .aload_n 0, 19, []), (19, .ldc 51, 21, []), (21, .invokevirtual 43, 24, []), (24, .ifCond .eq 12, 27, [36]), (27, .aload_n 0, 28, [])]), (56, [(28, .aload_n 1, 29, []), (29, .iconst 1, 30, [1]), (30, .invokevirtual 47, 33, []), (33, .goto 135, 36, [168]), (36, .aload_n 0, 37, []), (37, .ldc 53, 39, []), (39, .invokevirtual 43, 42, []), (42, .ifCond .eq 11, 45, [53]), (45, .aload_n 0, 46, []), (46, .aload_n 1, 47, []), (47, .invokevirtual 55, 50, []), (50, .goto 118, 53, [168]), (53, .aload_n 0, 54, []), (54, .ldc 58, 56, [])]), (83, [(56, .invokevirtual 43, 59, []), (59, .ifCond .eq 24, 62, [83]), (62, .aload_n 0, 63, []), (63, .bipush 24, 65, [24]), (65, .invokevirtual 60, 68, []), (68, .istore_n 2, 69, []), (69, .iload_n 2, 70, []), (70, .ifCond .lt 10, 73, [80]), (73, .aload_n 1, 74, []), (74, .iload_n 2, 75, []), (75, .iconst 1, 76, [1]), (76, .invokevirtual 64, 79, []), (79, .pop, 80, []), (80, .goto 88, 83, [168])]), (111, [(83, .aload_n 0, 84, []), (84, .ldc 70, 86, []), (86, .invokevirtual 43, 89, []), (89, .ifCond .eq 12, 92, [101]), (92, .aload_n 0, 93, []), (93, .aload_n 1, 94, []), (94, .iconst 1, 95, [1]), (95, .invokevirtual 72, 98, []), (98, .goto 70, 101, [168]), (101, .aload_n 0, 102, []), (102, .ldc 75, 104, []), (104, .invokevirtual 43, 107, []), (107, .ifCond .eq 12, 110, [119]), (110, .aload_n 0, 111, [])]), (138, [(111, .aload_n 1, 112, []), (112, .iconst 0, 113, [0]), (113, .invokevirtual 72, 116, []), (116, .goto 52, 119, [168]), (119, .aload_n 0, 120, []), (120, .ldc 77, 122, []), (122, .invokevirtual 43, 125, []), (125, .ifCond .eq 21, 128, [146]), (128, .aload_n 0, 129, []), (129, .iconst 4, 130, [4]), (130, .invokevirtual 60, 133, []), (133, .istore_n 2, 134, []), (134, .iload_n 2, 135, []), (135, .ifCond .lt 8, 138, [143])]), (165, [(138, .aload_n 1, 139, []), (139, .iload_n 2, 140, []), (140, .putfield 79, 143, []), (143, .goto 25, 146, [168]), (146, .aload_n 0, 147, []), (147, .ldc 81, 149, []), (149, .invokevirtual 43, 152, []), (152, .ifCond .eq 11, 155, [163]), (155, .aload_n 0, 156, []), (156, .aload_n 1, 157, []), (157, .invokevirtual 83, 160, []), (160, .goto 8, 163, [168]), (163, .aload_n 0, 164, []), (164, .aload_n 1, 165, [])]), (169, [(165, .invokevirtual 86, 168, []), (168, .return_, 169, [])])]
theorem pk_X1_readItem : pgk cX1_readItem P_X1_readItem := by unfold pgk pk; decide +kernel
def P_X1_readItems : PG := [(23, [(0, .aload_n 0, 1, []), (1, .iconst (-1), 2, [1, 1]), (2, .putfield 19, 5, []), (5, .aload_n 0, 6, []), (6, .iconst 0, 7, [0]), (7, .putfield 28, 10, []), (10, .aload_n 0, 11, []), (11, .invokevirtual 34, 14, []), (14, .iconst 1, 15, [1]), (15, .istore_n 2, 16, []), (16, .iload_n 2, 17, []), (17, .bipush 120, 19, [120]), (19, .if_icmp .gt 54, 22, [73]), (22, .aload_n 0, 23, [])]), (49, [(23, .aload_n 1, 24, []), (24, .invokevirtual 37, 27, []), (27, .aload_n 0, 28, []), (28, .getfield 19, 31, []), (31, .ifCond .lt 5, 34, [36]), (34, .iconst 0, 35, [0]), (35, .ireturn, 36, []), (36, .aload_n 0, 37, []), (37, .getfield 22, 40, []), (40, .ifCond .ne 5, 43, [45]), (43, .iload_n 2, 44, []), (44, .ireturn, 45, []), (45, .aload_n 0, 46, []), (46, .getfield 22, 49, [])]), (75, [(49, .iconst 3, 50, [3]), (50, .if_icmp .eq 13, 53, [63]), (53, .aload_n 0, 54, []), (54, .aload_n 0, 55, []), (55, .getfield 25, 58, []), (58, .putfield 19, 61, []), (61, .iconst 0, 62, [0]), (62, .ireturn, 63, []), (63, .aload_n 0, 64, []), (64, .invokevirtual 34, 67, []), (67, .iinc 2 1, 70, [1]), (70, .goto (-54), 73, [16]), (73, .iconst 0, 74, [0]), (74, .ireturn, 75, [])])]
theorem pk_X1_readItems : pgk cX1_readItems P_X1_readItems := by unfold pgk pk; decide +kernel
def P_X2_takeFrom : PG := [(26, [(0, .aload_n 0, 1, []), (1, .aload_n 1, 2, []), (2, .getfield 9, 5, []), (5, .putfield 9, 8, []), (8, .aload_n 0, 9, []), (9, .aload_n 1, 10, []), (10, .getfield 15, 13, []), (13, .putfield 15, 16, []), (16, .aload_n 0, 17, []), (17, .aload_n 1, 18, []), (18, .getfield 18, 21, []), (21, .putfield 18, 24, []), (24, .aload_n 0, 25, []), (25, .aload_n 1, 26, [])]), (41, [(26, .getfield 21, 29, []), (29, .putfield 21, 32, []), (32, .aload_n 0, 33, []), (33, .aload_n 1, 34, []), (34, .getfield 24, 37, []), (37, .putfield 24, 40, []), (40, .return_, 41, [])])]
theorem pk_X2_takeFrom : pgk cX2_takeFrom P_X2_takeFrom := by unfold pgk pk; decide +kernel
def P_J7_fill_53178 : PG := [(20, [(0, .iconst 0, 1, [0]), (1, .istore_n 2, 2, []), (2, .aload_n 0, 3, []), (3, .arraylength, 4, []), (4, .istore_n 3, 5, []), (5, .iload_n 2, 6, []), (6, .iload_n 3, 7, []), (7, .if_icmp .ge 13, 10, [20]), (10, .aload_n 0, 11, []), (11, .iload_n 2, 12, []), (12, .iload_n 1, 13, []), (13, .iastore, 14, []), (14, .iinc 2 1, 17, [1]), (17, .goto (-12), 20, [5])]), (21, [(20, .return_, 21, [])])]
theorem pk_J7_fill_53178 : pgk cJ7_fill_53178 P_J7_fill_53178 := by unfold pgk pk; decide +kernel
def P_X3_takeFrom : PG := [(25, [(0, .aload_n 0, 1, []), (1, .aload_n 1, 2, []), (2, .getfield 9, 5, []), (5, .putfield 9, 8, []), (8, .aload_n 1, 9, []), (9, .getfield 15, 12, []), (12, .iconst 0, 13, [0]), (13, .aload_n 0, 14, []), (14, .getfield 15, 17, []), (17, .iconst 0, 18, [0]), (18, .bipush 25, 20, [25]), (20, .invokestatic 63, 23, []), (23, .aload_n 0, 24, []), (24, .aload_n 1, 25, [])]), (55, [(25, .getfield 19, 28, []), (28, .putfield 19, 31, []), (31, .aload_n 0, 32, []), (32, .aload_n 1, 33, []), (33, .getfield 23, 36, []), (36, .putfield 23, 39, []), (39, .aload_n 0, 40, []), (40, .aload_n 1, 41, []), (41, .getfield 26, 44, []), (44, .putfield 26, 47, []), (47, .aload_n 0, 48, []), (48, .aload_n 1, 49, []), (49, .getfield 29, 52, []), (52, .putfield 29, 55, [])]), (81, [(55, .aload_n 0, 56, []), (56, .aload_n 1, 57, []), (57, .getfield 32, 60, []), (60, .putfield 32, 63, []), (63, .aload_n 0, 64, []), (64, .aload_n 1, 65, []), (65, .getfield 35, 68, []), (68, .putfield 35, 71, []), (71, .aload_n 1, 72, []), (72, .getfield 38, 75, []), (75, .iconst 0, 76, [0]), (76, .aload_n 0, 77, []), (77, .getfield 38, 80, []), (80, .iconst 0, 81, [0])]), (110, [(81, .bipush 12, 83, [12]), (83, .invokestatic 63, 86, []), (86, .aload_n 0, 87, []), (87, .aload_n 1, 88, []), (88, .getfield 41, 91, []), (91, .putfield 41, 94, []), (94, .aload_n 0, 95, []), (95, .aload_n 1, 96, []), (96, .getfield 44, 99, []), (99, .putfield 44, 102, []), (102, .aload_n 0, 103, []), (103, .aload_n 1, 104, []), (104, .getfield 53, 107, []), (107, .putfield 53, 110, [])]), (132, [(110, .iconst 0, 111, [0]), (111, .istore_n 2, 112, []), (112, .iload_n 2, 113, []), (113, .aload_n 0, 114, []), (114, .getfield 53, 117, []), (117, .if_icmp .ge 24, 120, [141]), (120, .aload_n 0, 121, []), (121, .getfield 49, 124, []), (124, .iload_n 2, 125, []), (125, .aaload, 126, []), (126, .aload_n 1, 127, []), (127, .getfield 49, 130, []), (130, .iload_n 2, 131, []), (131, .aaload, 132, [])]), (142, [(132, .invokevirtual 69, 135, []), (135, .iinc 2 1, 138, [1]), (138, .goto (-26), 141, [112]), (141, .return_, 142, [])])]
theorem pk_X3_takeFrom : pgk cX3_takeFrom P_X3_takeFrom := by unfold pgk pk; decide +kernel
def P_X3_walkersAt : PG := [(25, [(0, .iconst 0, 1, [0]), (1, .istore_n 3, 2, []), (2, .iconst 0, 3, [0]), (3, .istore 4, 5, []), (5, .iload 4, 7, []), (7, .aload_n 0, 8, []), (8, .getfield 53, 11, []), (11, .if_icmp .ge 32, 14, [43]), (14, .aload_n 0, 15, []), (15, .getfield 49, 18, []), (18, .iload 4, 20, []), (20, .aaload, 21, []), (21, .getfield 106, 24, []), (24, .i2l, 25, [])]), (45, [(25, .lload_n 1, 26, []), (26, .lcmp, 27, []), (27, .ifCond .ne 10, 30, [37]), (30, .iload_n 3, 31, []), (31, .iconst 1, 32, [1]), (32, .iload 4, 34, []), (34, .ishl, 35, []), (35, .ior, 36, []), (36, .istore_n 3, 37, []), (37, .iinc 4 1, 40, [1]), (40, .goto (-35), 43, [5]), (43, .iload_n 3, 44, []), (44, .ireturn, 45, [])])]
theorem pk_X3_walkersAt : pgk cX3_walkersAt P_X3_walkersAt := by unfold pgk pk; decide +kernel
def P_X3_awakeCount : PG := [(22, [(0, .iconst 0, 1, [0]), (1, .istore_n 1, 2, []), (2, .iconst 0, 3, [0]), (3, .istore_n 2, 4, []), (4, .iload_n 2, 5, []), (5, .aload_n 0, 6, []), (6, .getfield 53, 9, []), (9, .if_icmp .ge 29, 12, [38]), (12, .iload_n 1, 13, []), (13, .aload_n 0, 14, []), (14, .getfield 49, 17, []), (17, .iload_n 2, 18, []), (18, .aaload, 19, []), (19, .getfield 112, 22, [])]), (40, [(22, .ifCond .eq 7, 25, [29]), (25, .iconst 1, 26, [1]), (26, .goto 4, 29, [30]), (29, .iconst 0, 30, [0]), (30, .iadd, 31, []), (31, .istore_n 1, 32, []), (32, .iinc 2 1, 35, [1]), (35, .goto (-31), 38, [4]), (38, .iload_n 1, 39, []), (39, .ireturn, 40, [])])]
theorem pk_X3_awakeCount : pgk cX3_awakeCount P_X3_awakeCount := by unfold pgk pk; decide +kernel
def P_X3_riverCount : PG := [(20, [(0, .iconst 0, 1, [0]), (1, .istore_n 1, 2, []), (2, .iconst 0, 3, [0]), (3, .istore_n 2, 4, []), (4, .iload_n 2, 5, []), (5, .aload_n 0, 6, []), (6, .getfield 53, 9, []), (9, .if_icmp .ge 33, 12, [42]), (12, .iload_n 1, 13, []), (13, .aload_n 0, 14, []), (14, .aload_n 0, 15, []), (15, .getfield 49, 18, []), (18, .iload_n 2, 19, []), (19, .aaload, 20, [])]), (44, [(20, .getfield 106, 23, []), (23, .invokevirtual 97, 26, []), (26, .ifCond .eq 7, 29, [33]), (29, .iconst 1, 30, [1]), (30, .goto 4, 33, [34]), (33, .iconst 0, 34, [0]), (34, .iadd, 35, []), (35, .istore_n 1, 36, []), (36, .iinc 2 1, 39, [1]), (39, .goto (-35), 42, [4]), (42, .iload_n 1, 43, []), (43, .ireturn, 44, [])])]
theorem pk_X3_riverCount : pgk cX3_riverCount P_X3_riverCount := by unfold pgk pk; decide +kernel
def P_X3_homeCount : PG := [(22, [(0, .iconst 0, 1, [0]), (1, .istore_n 1, 2, []), (2, .iconst 0, 3, [0]), (3, .istore_n 2, 4, []), (4, .iload_n 2, 5, []), (5, .aload_n 0, 6, []), (6, .getfield 53, 9, []), (9, .if_icmp .ge 38, 12, [47]), (12, .iload_n 1, 13, []), (13, .aload_n 0, 14, []), (14, .getfield 49, 17, []), (17, .iload_n 2, 18, []), (18, .aaload, 19, []), (19, .getfield 106, 22, [])]), (48, [(22, .aload_n 0, 23, []), (23, .getfield 49, 26, []), (26, .iload_n 2, 27, []), (27, .aaload, 28, []), (28, .getfield 103, 31, []), (31, .if_icmp .ne 7, 34, [38]), (34, .iconst 1, 35, [1]), (35, .goto 4, 38, [39]), (38, .iconst 0, 39, [0]), (39, .iadd, 40, []), (40, .istore_n 1, 41, []), (41, .iinc 2 1, 44, [1]), (44, .goto (-40), 47, [4]), (47, .iload_n 1, 48, [])]), (49, [(48, .ireturn, 49, [])])]
theorem pk_X3_homeCount : pgk cX3_homeCount P_X3_homeCount := by unfold pgk pk; decide +kernel
def P_X3_waysFrom : PG := [(18, [(0, .iconst 0, 1, [0]), (1, .istore_n 2, 2, []), (2, .iload_n 1, 3, []), (3, .iconst 5, 4, [5]), (4, .if_icmp .lt 21, 7, [25]), (7, .aload_n 0, 8, []), (8, .iconst 2, 9, [2]), (9, .iload_n 1, 10, []), (10, .iconst 5, 11, [5]), (11, .isub, 12, []), (12, .imul, 13, []), (13, .iconst 1, 14, [1]), (14, .iadd, 15, []), (15, .invokevirtual 89, 18, [])]), (36, [(18, .ifCond .ne 7, 21, [25]), (21, .iload_n 2, 22, []), (22, .iconst 1, 23, [1]), (23, .ior, 24, []), (24, .istore_n 2, 25, []), (25, .iload_n 1, 26, []), (26, .iconst 5, 27, [5]), (27, .irem, 28, []), (28, .iconst 4, 29, [4]), (29, .if_icmp .ge 17, 32, [46]), (32, .aload_n 0, 33, []), (33, .iconst 2, 34, [2]), (34, .iload_n 1, 35, []), (35, .imul, 36, [])]), (57, [(36, .invokevirtual 89, 39, []), (39, .ifCond .ne 7, 42, [46]), (42, .iload_n 2, 43, []), (43, .iconst 2, 44, [2]), (44, .ior, 45, []), (45, .istore_n 2, 46, []), (46, .iload_n 1, 47, []), (47, .bipush 20, 49, [20]), (49, .if_icmp .ge 19, 52, [68]), (52, .aload_n 0, 53, []), (53, .iconst 2, 54, [2]), (54, .iload_n 1, 55, []), (55, .imul, 56, []), (56, .iconst 1, 57, [1])]), (77, [(57, .iadd, 58, []), (58, .invokevirtual 89, 61, []), (61, .ifCond .ne 7, 64, [68]), (64, .iload_n 2, 65, []), (65, .iconst 4, 66, [4]), (66, .ior, 67, []), (67, .istore_n 2, 68, []), (68, .iload_n 1, 69, []), (69, .iconst 5, 70, [5]), (70, .irem, 71, []), (71, .ifCond .le 20, 74, [91]), (74, .aload_n 0, 75, []), (75, .iconst 2, 76, [2]), (76, .iload_n 1, 77, [])]), (93, [(77, .iconst 1, 78, [1]), (78, .isub, 79, []), (79, .imul, 80, []), (80, .invokevirtual 89, 83, []), (83, .ifCond .ne 8, 86, [91]), (86, .iload_n 2, 87, []), (87, .bipush 8, 89, [8]), (89, .ior, 90, []), (90, .istore_n 2, 91, []), (91, .iload_n 2, 92, []), (92, .ireturn, 93, [])])]
theorem pk_X3_waysFrom : pgk cX3_waysFrom P_X3_waysFrom := by unfold pgk pk; decide +kernel
def P_X3_plainStep : PG := [(16, [(0, .iconst 0, 1, [0]), (1, .istore_n 2, 2, []), (2, .iload_n 2, 3, []), (3, .iconst 4, 4, [4]), (4, .if_icmp .ge 25, 7, [29]), (7, .iload_n 0, 8, []), (8, .iload_n 2, 9, []), (9, .iadd, 10, []), (10, .iconst 4, 11, [4]), (11, .irem, 12, []), (12, .istore_n 3, 13, []), (13, .iload_n 1, 14, []), (14, .iload_n 3, 15, []), (15, .ishr, 16, [])]), (31, [(16, .iconst 1, 17, [1]), (17, .iand, 18, []), (18, .ifCond .eq 5, 21, [23]), (21, .iload_n 3, 22, []), (22, .ireturn, 23, []), (23, .iinc 2 1, 26, [1]), (26, .goto (-24), 29, [2]), (29, .iconst (-1), 30, [1, 1]), (30, .ireturn, 31, [])])]
theorem pk_X3_plainStep : pgk cX3_plainStep P_X3_plainStep := by unfold pgk pk; decide +kernel
def P_X3_slopeStep : PG := [(23, [(0, .iconst (-1), 1, [1, 1]), (1, .istore_n 3, 2, []), (2, .aload_n 0, 3, []), (3, .getfield 15, 6, []), (6, .aload_n 1, 7, []), (7, .getfield 106, 10, []), (10, .iaload, 11, []), (11, .istore 4, 13, []), (13, .iconst 0, 14, [0]), (14, .istore 5, 16, []), (16, .iload 5, 18, []), (18, .iconst 4, 19, [4]), (19, .if_icmp .ge 62, 22, [81]), (22, .iload_n 2, 23, [])]), (51, [(23, .iload 5, 25, []), (25, .ishr, 26, []), (26, .iconst 1, 27, [1]), (27, .iand, 28, []), (28, .ifCond .eq 15, 31, [43]), (31, .aload_n 1, 32, []), (32, .getfield 106, 35, []), (35, .iload 5, 37, []), (37, .invokestatic 86, 40, []), (40, .goto 4, 43, [44]), (43, .iconst (-1), 44, [1, 1]), (44, .istore 6, 46, []), (46, .iload 6, 48, []), (48, .ifCond .lt 27, 51, [75])]), (78, [(51, .aload_n 0, 52, []), (52, .getfield 15, 55, []), (55, .iload 6, 57, []), (57, .iaload, 58, []), (58, .iload 4, 60, []), (60, .if_icmp .ge 15, 63, [75]), (63, .aload_n 0, 64, []), (64, .getfield 15, 67, []), (67, .iload 6, 69, []), (69, .iaload, 70, []), (70, .istore 4, 72, []), (72, .iload 5, 74, []), (74, .istore_n 3, 75, []), (75, .iinc 5 1, 78, [1])]), (98, [(78, .goto (-62), 81, [16]), (81, .iload_n 3, 82, []), (82, .ifCond .lt 7, 85, [89]), (85, .iload_n 3, 86, []), (86, .goto 11, 89, [97]), (89, .aload_n 1, 90, []), (90, .getfield 109, 93, []), (93, .iload_n 2, 94, []), (94, .invokestatic 130, 97, []), (97, .ireturn, 98, [])])]
theorem pk_X3_slopeStep : pgk cX3_slopeStep P_X3_slopeStep := by unfold pgk pk; decide +kernel
def P_X3_lampStep : PG := [(21, [(0, .iconst 0, 1, [0]), (1, .istore_n 3, 2, []), (2, .iconst 0, 3, [0]), (3, .istore 4, 5, []), (5, .iload 4, 7, []), (7, .iconst 4, 8, [4]), (8, .if_icmp .ge 54, 11, [62]), (11, .iload_n 2, 12, []), (12, .iload 4, 14, []), (14, .ishr, 15, []), (15, .iconst 1, 16, [1]), (16, .iand, 17, []), (17, .ifCond .eq 15, 20, [32]), (20, .aload_n 1, 21, [])]), (51, [(21, .getfield 106, 24, []), (24, .iload 4, 26, []), (26, .invokestatic 86, 29, []), (29, .goto 4, 32, [33]), (32, .iconst (-1), 33, [1, 1]), (33, .istore 5, 35, []), (35, .iload 5, 37, []), (37, .ifCond .lt 19, 40, [56]), (40, .aload_n 0, 41, []), (41, .iload 5, 43, []), (43, .invokevirtual 94, 46, []), (46, .ifCond .eq 10, 49, [56]), (49, .iload_n 3, 50, []), (50, .iconst 1, 51, [1])]), (78, [(51, .iload 4, 53, []), (53, .ishl, 54, []), (54, .ior, 55, []), (55, .istore_n 3, 56, []), (56, .iinc 4 1, 59, [1]), (59, .goto (-54), 62, [5]), (62, .aload_n 1, 63, []), (63, .getfield 109, 66, []), (66, .iload_n 3, 67, []), (67, .ifCond .eq 7, 70, [74]), (70, .iload_n 3, 71, []), (71, .goto 4, 74, [75]), (74, .iload_n 2, 75, []), (75, .invokestatic 130, 78, [])]), (79, [(78, .ireturn, 79, [])])]
theorem pk_X3_lampStep : pgk cX3_lampStep P_X3_lampStep := by unfold pgk pk; decide +kernel
def P_J6_bitCount_0f7a4 : PG := [(18, [(0, .iload_n 0, 1, []), (1, .iload_n 0, 2, []), (2, .iconst 1, 3, [1]), (3, .iushr, 4, []), (4, .ldc_w 265, 7, []), (7, .iand, 8, []), (8, .isub, 9, []), (9, .istore_n 0, 10, []), (10, .iload_n 0, 11, []), (11, .ldc_w 266, 14, []), (14, .iand, 15, []), (15, .iload_n 0, 16, []), (16, .iconst 2, 17, [2]), (17, .iushr, 18, [])]), (36, [(18, .ldc_w 266, 21, []), (21, .iand, 22, []), (22, .iadd, 23, []), (23, .istore_n 0, 24, []), (24, .iload_n 0, 25, []), (25, .iload_n 0, 26, []), (26, .iconst 4, 27, [4]), (27, .iushr, 28, []), (28, .iadd, 29, []), (29, .ldc_w 267, 32, []), (32, .iand, 33, []), (33, .istore_n 0, 34, []), (34, .iload_n 0, 35, []), (35, .iload_n 0, 36, [])]), (53, [(36, .bipush 8, 38, [8]), (38, .iushr, 39, []), (39, .iadd, 40, []), (40, .istore_n 0, 41, []), (41, .iload_n 0, 42, []), (42, .iload_n 0, 43, []), (43, .bipush 16, 45, [16]), (45, .iushr, 46, []), (46, .iadd, 47, []), (47, .istore_n 0, 48, []), (48, .iload_n 0, 49, []), (49, .bipush 63, 51, [63]), (51, .iand, 52, []), (52, .ireturn, 53, [])])]
theorem pk_J6_bitCount_0f7a4 : pgk cJ6_bitCount_0f7a4 P_J6_bitCount_0f7a4 := by unfold pgk pk; decide +kernel
def P_X3_drawnStep : PG := [(23, [(0, .iload_n 1, 1, []), (1, .invokestatic 133, 4, []), (4, .istore_n 2, 5, []), (5, .iload_n 2, 6, []), (6, .ifCond .ne 5, 9, [11]), (9, .iconst (-1), 10, [1, 1]), (10, .ireturn, 11, []), (11, .aload_n 0, 12, []), (12, .aload_n 0, 13, []), (13, .getfield 32, 16, []), (16, .ldc 138, 18, []), (18, .imul, 19, []), (19, .sipush 12345, 22, [12345]), (22, .iadd, 23, [])]), (46, [(23, .putfield 32, 26, []), (26, .aload_n 0, 27, []), (27, .getfield 32, 30, []), (30, .bipush 8, 32, [8]), (32, .iushr, 33, []), (33, .iload_n 2, 34, []), (34, .irem, 35, []), (35, .istore_n 3, 36, []), (36, .iconst 0, 37, [0]), (37, .istore 4, 39, []), (39, .iload 4, 41, []), (41, .iconst 4, 42, [4]), (42, .if_icmp .ge 28, 45, [70]), (45, .iload_n 1, 46, [])]), (72, [(46, .iload 4, 48, []), (48, .ishr, 49, []), (49, .iconst 1, 50, [1]), (50, .iand, 51, []), (51, .ifCond .eq 13, 54, [64]), (54, .iload_n 3, 55, []), (55, .ifCond .ne 6, 58, [61]), (58, .iload 4, 60, []), (60, .ireturn, 61, []), (61, .iinc 3 (-1), 64, [1, 1]), (64, .iinc 4 1, 67, [1]), (67, .goto (-28), 70, [39]), (70, .iconst (-1), 71, [1, 1]), (71, .ireturn, 72, [])])]
theorem pk_X3_drawnStep : pgk cX3_drawnStep P_X3_drawnStep := by unfold pgk pk; decide +kernel
def P_X3_stepOf : PG := [(56, [(0, .aload_n 0, 1, []), (1, .aload_n 1, 2, []), (2, .getfield 106, 5, []), (5, .invokevirtual 116, 8, []), (8, .istore_n 2, 9, []), (9, .aload_n 1, 10, []), (10, .getfield 100, 13, []), (13, .tableswitch 126 1 5 #[35, 42, 49, 78, 84], 48, [139, 48, 55, 62, 91, 97]), (48, .aload_n 0, 49, []), (49, .aload_n 1, 50, []), (50, .iload_n 2, 51, []), (51, .invokevirtual 120, 54, []), (54, .ireturn, 55, []), (55, .aload_n 0, 56, [])]), (84, [(56, .aload_n 1, 57, []), (57, .iload_n 2, 58, []), (58, .invokevirtual 124, 61, []), (61, .ireturn, 62, []), (62, .aload_n 1, 63, []), (63, .getfield 106, 66, []), (66, .aload_n 1, 67, []), (67, .getfield 103, 70, []), (70, .if_icmp .ne 14, 73, [84]), (73, .aload_n 0, 74, []), (74, .getfield 29, 77, []), (77, .ifCond .eq 7, 80, [84]), (80, .iconst (-1), 81, [1, 1]), (81, .goto 9, 84, [90])]), (106, [(84, .aload_n 0, 85, []), (85, .aload_n 1, 86, []), (86, .iload_n 2, 87, []), (87, .invokevirtual 120, 90, []), (90, .ireturn, 91, []), (91, .aload_n 0, 92, []), (92, .iload_n 2, 93, []), (93, .invokevirtual 127, 96, []), (96, .ireturn, 97, []), (97, .aload_n 0, 98, []), (98, .getfield 26, 101, []), (101, .iconst 4, 102, [4]), (102, .if_icmp .ne 10, 105, [112]), (105, .aload_n 0, 106, [])]), (131, [(106, .aload_n 1, 107, []), (107, .iload_n 2, 108, []), (108, .invokevirtual 124, 111, []), (111, .ireturn, 112, []), (112, .aload_n 0, 113, []), (113, .getfield 29, 116, []), (116, .bipush 60, 118, [60]), (118, .aload_n 0, 119, []), (119, .getfield 26, 122, []), (122, .imul, 123, []), (123, .if_icmp .ge 14, 126, [137]), (126, .aload_n 1, 127, []), (127, .getfield 109, 130, []), (130, .iload_n 2, 131, [])]), (148, [(131, .invokestatic 130, 134, []), (134, .goto 4, 137, [138]), (137, .iconst (-1), 138, [1, 1]), (138, .ireturn, 139, []), (139, .aload_n 1, 140, []), (140, .getfield 109, 143, []), (143, .iload_n 2, 144, []), (144, .invokestatic 130, 147, []), (147, .ireturn, 148, [])])]
theorem pk_X3_stepOf : pgk cX3_stepOf P_X3_stepOf := by unfold pgk pk; decide +kernel
def P_X3_goMinute : PG := [(20, [(0, .iconst 0, 1, [0]), (1, .istore_n 1, 2, []), (2, .iconst 0, 3, [0]), (3, .istore_n 2, 4, []), (4, .iload_n 2, 5, []), (5, .aload_n 0, 6, []), (6, .getfield 53, 9, []), (9, .if_icmp .ge 99, 12, [108]), (12, .aload_n 0, 13, []), (13, .getfield 49, 16, []), (16, .iload_n 2, 17, []), (17, .aaload, 18, []), (18, .astore_n 3, 19, []), (19, .aload_n 3, 20, [])]), (50, [(20, .getfield 112, 23, []), (23, .ifCond .ne 14, 26, [37]), (26, .aload_n 0, 27, []), (27, .aload_n 3, 28, []), (28, .getfield 106, 31, []), (31, .invokevirtual 97, 34, []), (34, .ifCond .eq 7, 37, [41]), (37, .iconst (-1), 38, [1, 1]), (38, .goto 8, 41, [46]), (41, .aload_n 0, 42, []), (42, .aload_n 3, 43, []), (43, .invokevirtual 143, 46, []), (46, .istore 4, 48, []), (48, .iload 4, 50, [])]), (80, [(50, .ifCond .lt 15, 53, [65]), (53, .aload_n 3, 54, []), (54, .getfield 106, 57, []), (57, .iload 4, 59, []), (59, .invokestatic 86, 62, []), (62, .goto 4, 65, [66]), (65, .iconst (-1), 66, [1, 1]), (66, .istore 5, 68, []), (68, .iload 5, 70, []), (70, .ifCond .lt 32, 73, [102]), (73, .aload_n 3, 74, []), (74, .iload 4, 76, []), (76, .putfield 109, 79, []), (79, .aload_n 3, 80, [])]), (108, [(80, .iload 5, 82, []), (82, .putfield 106, 85, []), (85, .iload_n 1, 86, []), (86, .aload_n 0, 87, []), (87, .iload 5, 89, []), (89, .invokevirtual 97, 92, []), (92, .ifCond .eq 7, 95, [99]), (95, .iconst 1, 96, [1]), (96, .goto 4, 99, [100]), (99, .iconst 0, 100, [0]), (100, .iadd, 101, []), (101, .istore_n 1, 102, []), (102, .iinc 2 1, 105, [1]), (105, .goto (-101), 108, [4])]), (130, [(108, .iconst 0, 109, [0]), (109, .istore_n 2, 110, []), (110, .iload_n 2, 111, []), (111, .aload_n 0, 112, []), (112, .getfield 53, 115, []), (115, .if_icmp .ge 43, 118, [158]), (118, .aload_n 0, 119, []), (119, .getfield 49, 122, []), (122, .iload_n 2, 123, []), (123, .aaload, 124, []), (124, .astore_n 3, 125, []), (125, .aload_n 3, 126, []), (126, .getfield 106, 129, []), (129, .aload_n 0, 130, [])]), (162, [(130, .getfield 35, 133, []), (133, .if_icmp .ne 19, 136, [152]), (136, .aload_n 0, 137, []), (137, .aload_n 0, 138, []), (138, .getfield 35, 141, []), (141, .invokevirtual 97, 144, []), (144, .ifCond .ne 8, 147, [152]), (147, .aload_n 3, 148, []), (148, .iconst 1, 149, [1]), (149, .putfield 112, 152, []), (152, .iinc 2 1, 155, [1]), (155, .goto (-45), 158, [110]), (158, .aload_n 0, 159, []), (159, .getfield 41, 162, [])]), (188, [(162, .ifCond .le 43, 165, [205]), (165, .aload_n 0, 166, []), (166, .aload_n 0, 167, []), (167, .getfield 44, 170, []), (170, .iconst 1, 171, [1]), (171, .iadd, 172, []), (172, .aload_n 0, 173, []), (173, .getfield 41, 176, []), (176, .if_icmp .ge 12, 179, [188]), (179, .aload_n 0, 180, []), (180, .getfield 44, 183, []), (183, .iconst 1, 184, [1]), (184, .iadd, 185, []), (185, .goto 4, 188, [189])]), (212, [(188, .iconst 0, 189, [0]), (189, .putfield 44, 192, []), (192, .aload_n 0, 193, []), (193, .aload_n 0, 194, []), (194, .getfield 38, 197, []), (197, .aload_n 0, 198, []), (198, .getfield 44, 201, []), (201, .iaload, 202, []), (202, .putfield 35, 205, []), (205, .aload_n 0, 206, []), (206, .dup, 207, []), (207, .getfield 29, 210, []), (210, .iconst 1, 211, [1]), (211, .iadd, 212, [])]), (217, [(212, .putfield 29, 215, []), (215, .iload_n 1, 216, []), (216, .ireturn, 217, [])])]
theorem pk_X3_goMinute : pgk cX3_goMinute P_X3_goMinute := by unfold pgk pk; decide +kernel
def P_X3_goMinutes : PG := [(22, [(0, .iconst 0, 1, [0]), (1, .istore_n 2, 2, []), (2, .iconst 0, 3, [0]), (3, .istore_n 3, 4, []), (4, .iload_n 3, 5, []), (5, .iload_n 1, 6, []), (6, .if_icmp .ge 16, 9, [22]), (9, .iload_n 2, 10, []), (10, .aload_n 0, 11, []), (11, .invokevirtual 139, 14, []), (14, .iadd, 15, []), (15, .istore_n 2, 16, []), (16, .iinc 3 1, 19, [1]), (19, .goto (-15), 22, [4])]), (24, [(22, .iload_n 2, 23, []), (23, .ireturn, 24, [])])]
theorem pk_X3_goMinutes : pgk cX3_goMinutes P_X3_goMinutes := by unfold pgk pk; decide +kernel
def P_X4_tell : PG := [(22, [(0, .ldc 62, 2, []), (2, .iload_n 1, 3, []), (3, .isub, 4, []), (4, .istore_n 2, 5, []), (5, .iload_n 2, 6, []), (6, .iconst 0, 7, [0]), (7, .bipush 6, 9, [6]), (9, .invokestatic 78, 12, []), (12, .ifCond .eq 23, 15, [35]), (15, .aload_n 0, 16, []), (16, .getfield 50, 19, []), (19, .iload_n 2, 20, []), (20, .dup2, 21, []), (21, .iaload, 22, [])]), (37, [(22, .iconst 1, 23, [1]), (23, .iadd, 24, []), (24, .iastore, 25, []), (25, .aload_n 0, 26, []), (26, .dup, 27, []), (27, .getfield 53, 30, []), (30, .iconst 1, 31, [1]), (31, .iadd, 32, []), (32, .putfield 53, 35, []), (35, .iload_n 1, 36, []), (36, .ireturn, 37, [])])]
theorem pk_X4_tell : pgk cX4_tell P_X4_tell := by unfold pgk pk; decide +kernel
def P_X4_door : PG := [(26, [(0, .iload_n 1, 1, []), (1, .iload_n 2, 2, []), (2, .invokestatic 58, 5, []), (5, .istore 4, 7, []), (7, .iload 4, 9, []), (9, .ifCond .ge 10, 12, [19]), (12, .aload_n 0, 13, []), (13, .ldc 62, 15, []), (15, .invokevirtual 63, 18, []), (18, .ireturn, 19, []), (19, .aload_n 0, 20, []), (20, .getfield 12, 23, []), (23, .iload 4, 25, []), (25, .iload_n 3, 26, [])]), (38, [(26, .invokevirtual 67, 29, []), (29, .ifCond .eq 7, 32, [36]), (32, .iconst 1, 33, [1]), (33, .goto 4, 36, [37]), (36, .iconst 0, 37, [0]), (37, .ireturn, 38, [])])]
theorem pk_X4_door : pgk cX4_door P_X4_door := by unfold pgk pk; decide +kernel
def P_X4_isOpen : PG := [(25, [(0, .iload_n 1, 1, []), (1, .iload_n 2, 2, []), (2, .invokestatic 58, 5, []), (5, .istore_n 3, 6, []), (6, .iload_n 3, 7, []), (7, .ifCond .ge 10, 10, [17]), (10, .aload_n 0, 11, []), (11, .ldc 62, 13, []), (13, .invokevirtual 63, 16, []), (16, .ireturn, 17, []), (17, .aload_n 0, 18, []), (18, .getfield 12, 21, []), (21, .iload_n 3, 22, []), (22, .invokevirtual 71, 25, [])]), (34, [(25, .ifCond .eq 7, 28, [32]), (28, .iconst 0, 29, [0]), (29, .goto 4, 32, [33]), (32, .iconst 1, 33, [1]), (33, .ireturn, 34, [])])]
theorem pk_X4_isOpen : pgk cX4_isOpen P_X4_isOpen := by unfold pgk pk; decide +kernel
def P_X4_height : PG := [(28, [(0, .iload_n 1, 1, []), (1, .invokestatic 75, 4, []), (4, .ifCond .eq 13, 7, [17]), (7, .iload_n 2, 8, []), (8, .iconst 0, 9, [0]), (9, .bipush 9, 11, [9]), (11, .invokestatic 78, 14, []), (14, .ifCond .ne 10, 17, [24]), (17, .aload_n 0, 18, []), (18, .ldc 62, 20, []), (20, .invokevirtual 63, 23, []), (23, .ireturn, 24, []), (24, .aload_n 0, 25, []), (25, .getfield 12, 28, [])]), (46, [(28, .getfield 82, 31, []), (31, .iload_n 1, 32, []), (32, .iaload, 33, []), (33, .istore_n 3, 34, []), (34, .aload_n 0, 35, []), (35, .getfield 12, 38, []), (38, .getfield 82, 41, []), (41, .iload_n 1, 42, []), (42, .iload_n 2, 43, []), (43, .iastore, 44, []), (44, .iload_n 3, 45, []), (45, .ireturn, 46, [])])]
theorem pk_X4_height : pgk cX4_height P_X4_height := by unfold pgk pk; decide +kernel
def P_X4_mark : PG := [(27, [(0, .iload_n 1, 1, []), (1, .invokestatic 75, 4, []), (4, .ifCond .eq 12, 7, [16]), (7, .iload_n 2, 8, []), (8, .iconst 0, 9, [0]), (9, .iconst 1, 10, [1]), (10, .invokestatic 78, 13, []), (13, .ifCond .ne 10, 16, [23]), (16, .aload_n 0, 17, []), (17, .ldc 62, 19, []), (19, .invokevirtual 63, 22, []), (22, .ireturn, 23, []), (23, .iload_n 2, 24, []), (24, .ifCond .ne 15, 27, [39])]), (55, [(27, .aload_n 0, 28, []), (28, .getfield 12, 31, []), (31, .iload_n 1, 32, []), (32, .iload_n 3, 33, []), (33, .invokevirtual 85, 36, []), (36, .goto 12, 39, [48]), (39, .aload_n 0, 40, []), (40, .getfield 12, 43, []), (43, .iload_n 1, 44, []), (44, .iload_n 3, 45, []), (45, .invokevirtual 88, 48, []), (48, .istore 4, 50, []), (50, .iload 4, 52, []), (52, .ifCond .eq 7, 55, [59])]), (61, [(55, .iconst 1, 56, [1]), (56, .goto 4, 59, [60]), (59, .iconst 0, 60, [0]), (60, .ireturn, 61, [])])]
theorem pk_X4_mark : pgk cX4_mark P_X4_mark := by unfold pgk pk; decide +kernel
def P_X4_squareOf : PG := [(53, [(0, .iload_n 1, 1, []), (1, .invokestatic 75, 4, []), (4, .ifCond .ne 10, 7, [14]), (7, .aload_n 0, 8, []), (8, .ldc 62, 10, []), (10, .invokevirtual 63, 13, []), (13, .ireturn, 14, []), (14, .iload_n 2, 15, []), (15, .tableswitch 83 0 3 #[29, 39, 56, 73], 44, [98, 44, 54, 71, 88]), (44, .aload_n 0, 45, []), (45, .getfield 12, 48, []), (48, .getfield 82, 51, []), (51, .iload_n 1, 52, []), (52, .iaload, 53, [])]), (79, [(53, .ireturn, 54, []), (54, .aload_n 0, 55, []), (55, .getfield 12, 58, []), (58, .iload_n 1, 59, []), (59, .invokevirtual 91, 62, []), (62, .ifCond .eq 7, 65, [69]), (65, .iconst 1, 66, [1]), (66, .goto 4, 69, [70]), (69, .iconst 0, 70, [0]), (70, .ireturn, 71, []), (71, .aload_n 0, 72, []), (72, .getfield 12, 75, []), (75, .iload_n 1, 76, []), (76, .invokevirtual 94, 79, [])]), (104, [(79, .ifCond .eq 7, 82, [86]), (82, .iconst 1, 83, [1]), (83, .goto 4, 86, [87]), (86, .iconst 0, 87, [0]), (87, .ireturn, 88, []), (88, .aload_n 0, 89, []), (89, .getfield 12, 92, []), (92, .iload_n 1, 93, []), (93, .i2l, 94, []), (94, .invokevirtual 97, 97, []), (97, .ireturn, 98, []), (98, .aload_n 0, 99, []), (99, .ldc 62, 101, []), (101, .invokevirtual 63, 104, [])]), (105, [(104, .ireturn, 105, [])])]
theorem pk_X4_squareOf : pgk cX4_squareOf P_X4_squareOf := by unfold pgk pk; decide +kernel
def P_X4_moon : PG := [(25, [(0, .iload_n 1, 1, []), (1, .iconst 0, 2, [0]), (2, .iconst 4, 3, [4]), (3, .invokestatic 78, 6, []), (6, .ifCond .ne 10, 9, [16]), (9, .aload_n 0, 10, []), (10, .ldc 62, 12, []), (12, .invokevirtual 63, 15, []), (15, .ireturn, 16, []), (16, .aload_n 0, 17, []), (17, .getfield 12, 20, []), (20, .getfield 101, 23, []), (23, .istore_n 2, 24, []), (24, .aload_n 0, 25, [])]), (34, [(25, .getfield 12, 28, []), (28, .iload_n 1, 29, []), (29, .putfield 101, 32, []), (32, .iload_n 2, 33, []), (33, .ireturn, 34, [])])]
theorem pk_X4_moon : pgk cX4_moon P_X4_moon := by unfold pgk pk; decide +kernel
def P_X4_round : PG := [(29, [(0, .iload_n 1, 1, []), (1, .invokestatic 75, 4, []), (4, .ifCond .ne 10, 7, [14]), (7, .aload_n 0, 8, []), (8, .ldc 62, 10, []), (10, .invokevirtual 63, 13, []), (13, .ireturn, 14, []), (14, .aload_n 0, 15, []), (15, .getfield 12, 18, []), (18, .getfield 104, 21, []), (21, .bipush 12, 23, [12]), (23, .if_icmp .lt 10, 26, [33]), (26, .aload_n 0, 27, []), (27, .ldc 107, 29, [])]), (49, [(29, .invokevirtual 63, 32, []), (32, .ireturn, 33, []), (33, .aload_n 0, 34, []), (34, .getfield 12, 37, []), (37, .iload_n 1, 38, []), (38, .invokevirtual 108, 41, []), (41, .aload_n 0, 42, []), (42, .getfield 12, 45, []), (45, .getfield 104, 48, []), (48, .ireturn, 49, [])])]
theorem pk_X4_round : pgk cX4_round P_X4_round := by unfold pgk pk; decide +kernel
def P_X4_rest : PG := [(17, [(0, .aload_n 0, 1, []), (1, .getfield 12, 4, []), (4, .getfield 104, 7, []), (7, .istore_n 1, 8, []), (8, .aload_n 0, 9, []), (9, .getfield 12, 12, []), (12, .invokevirtual 112, 15, []), (15, .iload_n 1, 16, []), (16, .ireturn, 17, [])])]
theorem pk_X4_rest : pgk cX4_rest P_X4_rest := by unfold pgk pk; decide +kernel
def P_X4_isKind : PG := [(7, [(0, .iload_n 0, 1, []), (1, .iconst 0, 2, [0]), (2, .iconst 5, 3, [5]), (3, .invokestatic 78, 6, []), (6, .ireturn, 7, [])])]
theorem pk_X4_isKind : pgk cX4_isKind P_X4_isKind := by unfold pgk pk; decide +kernel
def P_X4_isWay : PG := [(7, [(0, .iload_n 0, 1, []), (1, .iconst 0, 2, [0]), (2, .iconst 3, 3, [3]), (3, .invokestatic 78, 6, []), (6, .ireturn, 7, [])])]
theorem pk_X4_isWay : pgk cX4_isWay P_X4_isWay := by unfold pgk pk; decide +kernel
def P_X4_walker : PG := [(29, [(0, .iload_n 1, 1, []), (1, .invokestatic 115, 4, []), (4, .ifCond .eq 17, 7, [21]), (7, .iload_n 2, 8, []), (8, .invokestatic 75, 11, []), (11, .ifCond .eq 10, 14, [21]), (14, .iload_n 3, 15, []), (15, .invokestatic 118, 18, []), (18, .ifCond .ne 10, 21, [28]), (21, .aload_n 0, 22, []), (22, .ldc 62, 24, []), (24, .invokevirtual 63, 27, []), (27, .ireturn, 28, []), (28, .aload_n 0, 29, [])]), (57, [(29, .getfield 12, 32, []), (32, .getfield 121, 35, []), (35, .bipush 8, 37, [8]), (37, .if_icmp .lt 10, 40, [47]), (40, .aload_n 0, 41, []), (41, .ldc 107, 43, []), (43, .invokevirtual 63, 46, []), (46, .ireturn, 47, []), (47, .aload_n 0, 48, []), (48, .getfield 12, 51, []), (51, .iload_n 1, 52, []), (52, .iload_n 2, 53, []), (53, .iload_n 3, 54, []), (54, .invokevirtual 124, 57, [])]), (67, [(57, .aload_n 0, 58, []), (58, .getfield 12, 61, []), (61, .getfield 121, 64, []), (64, .iconst 1, 65, [1]), (65, .isub, 66, []), (66, .ireturn, 67, [])])]
theorem pk_X4_walker : pgk cX4_walker P_X4_walker := by unfold pgk pk; decide +kernel
def P_X4_isWalker : PG := [(15, [(0, .iload_n 1, 1, []), (1, .iconst 0, 2, [0]), (2, .aload_n 0, 3, []), (3, .getfield 12, 6, []), (6, .getfield 121, 9, []), (9, .iconst 1, 10, [1]), (10, .isub, 11, []), (11, .invokestatic 78, 14, []), (14, .ireturn, 15, [])])]
theorem pk_X4_isWalker : pgk cX4_isWalker P_X4_isWalker := by unfold pgk pk; decide +kernel
def P_X4_of : PG := [(25, [(0, .aload_n 0, 1, []), (1, .iload_n 1, 2, []), (2, .invokevirtual 128, 5, []), (5, .ifCond .ne 10, 8, [15]), (8, .aload_n 0, 9, []), (9, .ldc 62, 11, []), (11, .invokevirtual 63, 14, []), (14, .ireturn, 15, []), (15, .aload_n 0, 16, []), (16, .getfield 12, 19, []), (19, .getfield 131, 22, []), (22, .iload_n 1, 23, []), (23, .aaload, 24, []), (24, .astore_n 3, 25, [])]), (84, [(25, .iload_n 2, 26, []), (26, .tableswitch 83 0 5 #[38, 43, 48, 53, 58, 71], 64, [109, 64, 69, 74, 79, 84, 97]), (64, .aload_n 3, 65, []), (65, .getfield 135, 68, []), (68, .ireturn, 69, []), (69, .aload_n 3, 70, []), (70, .getfield 140, 73, []), (73, .ireturn, 74, []), (74, .aload_n 3, 75, []), (75, .getfield 143, 78, []), (78, .ireturn, 79, []), (79, .aload_n 3, 80, []), (80, .getfield 146, 83, []), (83, .ireturn, 84, [])]), (110, [(84, .aload_n 3, 85, []), (85, .getfield 149, 88, []), (88, .ifCond .eq 7, 91, [95]), (91, .iconst 1, 92, [1]), (92, .goto 4, 95, [96]), (95, .iconst 0, 96, [0]), (96, .ireturn, 97, []), (97, .aload_n 0, 98, []), (98, .getfield 12, 101, []), (101, .aload_n 3, 102, []), (102, .getfield 143, 105, []), (105, .invokevirtual 152, 108, []), (108, .ireturn, 109, []), (109, .aload_n 0, 110, [])]), (116, [(110, .ldc 62, 112, []), (112, .invokevirtual 63, 115, []), (115, .ireturn, 116, [])])]
theorem pk_X4_of : pgk cX4_of P_X4_of := by unfold pgk pk; decide +kernel
def P_X4_set : PG := [(25, [(0, .aload_n 0, 1, []), (1, .iload_n 1, 2, []), (2, .invokevirtual 128, 5, []), (5, .ifCond .eq 12, 8, [17]), (8, .iload_n 2, 9, []), (9, .iconst 1, 10, [1]), (10, .iconst 3, 11, [3]), (11, .invokestatic 78, 14, []), (14, .ifCond .ne 10, 17, [24]), (17, .aload_n 0, 18, []), (18, .ldc 62, 20, []), (20, .invokevirtual 63, 23, []), (23, .ireturn, 24, []), (24, .iload_n 2, 25, [])]), (54, [(25, .iconst 3, 26, [3]), (26, .if_icmp .ne 13, 29, [39]), (29, .iload_n 3, 30, []), (30, .invokestatic 118, 33, []), (33, .ifCond .ne 20, 36, [53]), (36, .goto 10, 39, [46]), (39, .iload_n 3, 40, []), (40, .invokestatic 75, 43, []), (43, .ifCond .ne 10, 46, [53]), (46, .aload_n 0, 47, []), (47, .ldc 62, 49, []), (49, .invokevirtual 63, 52, []), (52, .ireturn, 53, []), (53, .aload_n 0, 54, [])]), (82, [(54, .getfield 12, 57, []), (57, .getfield 131, 60, []), (60, .iload_n 1, 61, []), (61, .aaload, 62, []), (62, .astore 4, 64, []), (64, .iload_n 2, 65, []), (65, .iconst 1, 66, [1]), (66, .if_icmp .ne 19, 69, [85]), (69, .aload 4, 71, []), (71, .getfield 140, 74, []), (74, .istore 5, 76, []), (76, .aload 4, 78, []), (78, .iload_n 3, 79, []), (79, .putfield 140, 82, [])]), (113, [(82, .goto 37, 85, [119]), (85, .iload_n 2, 86, []), (86, .iconst 2, 87, [2]), (87, .if_icmp .ne 19, 90, [106]), (90, .aload 4, 92, []), (92, .getfield 143, 95, []), (95, .istore 5, 97, []), (97, .aload 4, 99, []), (99, .iload_n 3, 100, []), (100, .putfield 143, 103, []), (103, .goto 16, 106, [119]), (106, .aload 4, 108, []), (108, .getfield 146, 111, []), (111, .istore 5, 113, [])]), (122, [(113, .aload 4, 115, []), (115, .iload_n 3, 116, []), (116, .putfield 146, 119, []), (119, .iload 5, 121, []), (121, .ireturn, 122, [])])]
theorem pk_X4_set : pgk cX4_set P_X4_set := by unfold pgk pk; decide +kernel
def P_X4_wake : PG := [(25, [(0, .aload_n 0, 1, []), (1, .iload_n 1, 2, []), (2, .invokevirtual 128, 5, []), (5, .ifCond .ne 10, 8, [15]), (8, .aload_n 0, 9, []), (9, .ldc 62, 11, []), (11, .invokevirtual 63, 14, []), (14, .ireturn, 15, []), (15, .aload_n 0, 16, []), (16, .getfield 12, 19, []), (19, .getfield 131, 22, []), (22, .iload_n 1, 23, []), (23, .aaload, 24, []), (24, .astore_n 3, 25, [])]), (51, [(25, .aload_n 3, 26, []), (26, .getfield 149, 29, []), (29, .iload_n 2, 30, []), (30, .if_icmp .eq 7, 33, [37]), (33, .iconst 1, 34, [1]), (34, .goto 4, 37, [38]), (37, .iconst 0, 38, [0]), (38, .istore 4, 40, []), (40, .aload_n 3, 41, []), (41, .iload_n 2, 42, []), (42, .putfield 149, 45, []), (45, .iload 4, 47, []), (47, .ifCond .eq 7, 50, [54]), (50, .iconst 1, 51, [1])]), (56, [(51, .goto 4, 54, [55]), (54, .iconst 0, 55, [0]), (55, .ireturn, 56, [])])]
theorem pk_X4_wake : pgk cX4_wake P_X4_wake := by unfold pgk pk; decide +kernel
def P_X4_turn : PG := [(29, [(0, .aload_n 0, 1, []), (1, .iload_n 1, 2, []), (2, .invokevirtual 128, 5, []), (5, .ifCond .eq 10, 8, [15]), (8, .iload_n 2, 9, []), (9, .invokestatic 115, 12, []), (12, .ifCond .ne 10, 15, [22]), (15, .aload_n 0, 16, []), (16, .ldc 62, 18, []), (18, .invokevirtual 63, 21, []), (21, .ireturn, 22, []), (22, .aload_n 0, 23, []), (23, .getfield 12, 26, []), (26, .getfield 131, 29, [])]), (46, [(29, .iload_n 1, 30, []), (30, .aaload, 31, []), (31, .astore_n 3, 32, []), (32, .aload_n 3, 33, []), (33, .getfield 135, 36, []), (36, .istore 4, 38, []), (38, .aload_n 3, 39, []), (39, .iload_n 2, 40, []), (40, .putfield 135, 43, []), (43, .iload 4, 45, []), (45, .ireturn, 46, [])])]
theorem pk_X4_turn : pgk cX4_turn P_X4_turn := by unfold pgk pk; decide +kernel
def P_X4_isUnder : PG := [(23, [(0, .iload_n 0, 1, []), (1, .istore_n 2, 2, []), (2, .iconst 0, 3, [0]), (3, .istore_n 3, 4, []), (4, .iload_n 3, 5, []), (5, .bipush 6, 7, [6]), (7, .if_icmp .ge 29, 10, [36]), (10, .iload_n 2, 11, []), (11, .invokestatic 115, 14, []), (14, .ifCond .eq 22, 17, [36]), (17, .iload_n 2, 18, []), (18, .iload_n 1, 19, []), (19, .if_icmp .ne 5, 22, [24]), (22, .iconst 1, 23, [1])]), (38, [(23, .ireturn, 24, []), (24, .getstatic 292, 27, []), (27, .iload_n 2, 28, []), (28, .iaload, 29, []), (29, .istore_n 2, 30, []), (30, .iinc 3 1, 33, [1]), (33, .goto (-29), 36, [4]), (36, .iconst 0, 37, [0]), (37, .ireturn, 38, [])])]
theorem pk_X4_isUnder : pgk cX4_isUnder P_X4_isUnder := by unfold pgk pk; decide +kernel
def P_X4_as : PG := [(29, [(0, .aload_n 0, 1, []), (1, .iload_n 1, 2, []), (2, .invokevirtual 128, 5, []), (5, .ifCond .eq 10, 8, [15]), (8, .iload_n 2, 9, []), (9, .invokestatic 115, 12, []), (12, .ifCond .ne 10, 15, [22]), (15, .aload_n 0, 16, []), (16, .ldc 62, 18, []), (18, .invokevirtual 63, 21, []), (21, .ireturn, 22, []), (22, .aload_n 0, 23, []), (23, .getfield 12, 26, []), (26, .getfield 131, 29, [])]), (54, [(29, .iload_n 1, 30, []), (30, .aaload, 31, []), (31, .astore_n 3, 32, []), (32, .aload_n 3, 33, []), (33, .getfield 135, 36, []), (36, .iload_n 2, 37, []), (37, .invokestatic 155, 40, []), (40, .ifCond .ne 10, 43, [50]), (43, .aload_n 0, 44, []), (44, .ldc 159, 46, []), (46, .invokevirtual 63, 49, []), (49, .ireturn, 50, []), (50, .aload_n 3, 51, []), (51, .getfield 143, 54, [])]), (55, [(54, .ireturn, 55, [])])]
theorem pk_X4_as : pgk cX4_as P_X4_as := by unfold pgk pk; decide +kernel
def P_X4_step : PG := [(27, [(0, .aload_n 0, 1, []), (1, .iload_n 1, 2, []), (2, .invokevirtual 128, 5, []), (5, .ifCond .ne 10, 8, [15]), (8, .aload_n 0, 9, []), (9, .ldc 62, 11, []), (11, .invokevirtual 63, 14, []), (14, .ireturn, 15, []), (15, .aload_n 0, 16, []), (16, .getfield 12, 19, []), (19, .getfield 160, 22, []), (22, .istore_n 2, 23, []), (23, .aload_n 0, 24, []), (24, .getfield 12, 27, [])]), (50, [(27, .aload_n 0, 28, []), (28, .getfield 12, 31, []), (31, .getfield 131, 34, []), (34, .iload_n 1, 35, []), (35, .aaload, 36, []), (36, .invokevirtual 163, 39, []), (39, .istore_n 3, 40, []), (40, .aload_n 0, 41, []), (41, .getfield 12, 44, []), (44, .iload_n 2, 45, []), (45, .putfield 160, 48, []), (48, .iload_n 3, 49, []), (49, .ireturn, 50, [])])]
theorem pk_X4_step : pgk cX4_step P_X4_step := by unfold pgk pk; decide +kernel
def P_X4_isTooLate : PG := [(21, [(0, .aload_n 0, 1, []), (1, .getfield 12, 4, []), (4, .getfield 178, 7, []), (7, .iload_n 1, 8, []), (8, .iadd, 9, []), (9, .sipush 9999, 12, [9999]), (12, .if_icmp .le 7, 15, [19]), (15, .iconst 1, 16, [1]), (16, .goto 4, 19, [20]), (19, .iconst 0, 20, [0]), (20, .ireturn, 21, [])])]
theorem pk_X4_isTooLate : pgk cX4_isTooLate P_X4_isTooLate := by unfold pgk pk; decide +kernel
def P_X4_minutes : PG := [(27, [(0, .iload_n 1, 1, []), (1, .iconst 1, 2, [1]), (2, .sipush 500, 5, [500]), (5, .invokestatic 78, 8, []), (8, .ifCond .ne 10, 11, [18]), (11, .aload_n 0, 12, []), (12, .ldc 62, 14, []), (14, .invokevirtual 63, 17, []), (17, .ireturn, 18, []), (18, .aload_n 0, 19, []), (19, .iload_n 1, 20, []), (20, .invokevirtual 167, 23, []), (23, .ifCond .eq 10, 26, [33]), (26, .aload_n 0, 27, [])]), (42, [(27, .ldc 170, 29, []), (29, .invokevirtual 63, 32, []), (32, .ireturn, 33, []), (33, .aload_n 0, 34, []), (34, .getfield 12, 37, []), (37, .iload_n 1, 38, []), (38, .invokevirtual 171, 41, []), (41, .ireturn, 42, [])])]
theorem pk_X4_minutes : pgk cX4_minutes P_X4_minutes := by unfold pgk pk; decide +kernel
def P_X4_bed : PG := [(26, [(0, .aload_n 0, 1, []), (1, .getfield 12, 4, []), (4, .getfield 121, 7, []), (7, .aload_n 0, 8, []), (8, .getfield 12, 11, []), (11, .invokevirtual 174, 14, []), (14, .isub, 15, []), (15, .istore_n 1, 16, []), (16, .aload_n 0, 17, []), (17, .getfield 12, 20, []), (20, .iconst 0, 21, [0]), (21, .putfield 178, 24, []), (24, .iconst 0, 25, [0]), (25, .istore_n 2, 26, [])]), (52, [(26, .iload_n 2, 27, []), (27, .aload_n 0, 28, []), (28, .getfield 12, 31, []), (31, .getfield 121, 34, []), (34, .if_icmp .ge 32, 37, [66]), (37, .aload_n 0, 38, []), (38, .getfield 12, 41, []), (41, .getfield 131, 44, []), (44, .iload_n 2, 45, []), (45, .aaload, 46, []), (46, .astore_n 3, 47, []), (47, .aload_n 3, 48, []), (48, .aload_n 3, 49, []), (49, .getfield 140, 52, [])]), (68, [(52, .putfield 143, 55, []), (55, .aload_n 3, 56, []), (56, .iconst 0, 57, [0]), (57, .putfield 149, 60, []), (60, .iinc 2 1, 63, [1]), (63, .goto (-37), 66, [26]), (66, .iload_n 1, 67, []), (67, .ireturn, 68, [])])]
theorem pk_X4_bed : pgk cX4_bed P_X4_bed := by unfold pgk pk; decide +kernel
def P_X4_seed : PG := [(18, [(0, .aload_n 0, 1, []), (1, .getfield 12, 4, []), (4, .getfield 160, 7, []), (7, .istore_n 2, 8, []), (8, .aload_n 0, 9, []), (9, .getfield 12, 12, []), (12, .iload_n 1, 13, []), (13, .putfield 160, 16, []), (16, .iload_n 2, 17, []), (17, .ireturn, 18, [])])]
theorem pk_X4_seed : pgk cX4_seed P_X4_seed := by unfold pgk pk; decide +kernel
def P_X4_now : PG := [(64, [(0, .iload_n 1, 1, []), (1, .tableswitch 87 0 5 #[39, 47, 55, 63, 71, 79], 40, [88, 40, 48, 56, 64, 72, 80]), (40, .aload_n 0, 41, []), (41, .getfield 12, 44, []), (44, .getfield 178, 47, []), (47, .ireturn, 48, []), (48, .aload_n 0, 49, []), (49, .getfield 12, 52, []), (52, .getfield 101, 55, []), (55, .ireturn, 56, []), (56, .aload_n 0, 57, []), (57, .getfield 12, 60, []), (60, .getfield 181, 63, []), (63, .ireturn, 64, [])]), (91, [(64, .aload_n 0, 65, []), (65, .getfield 12, 68, []), (68, .invokevirtual 184, 71, []), (71, .ireturn, 72, []), (72, .aload_n 0, 73, []), (73, .getfield 12, 76, []), (76, .invokevirtual 187, 79, []), (79, .ireturn, 80, []), (80, .aload_n 0, 81, []), (81, .getfield 12, 84, []), (84, .invokevirtual 174, 87, []), (87, .ireturn, 88, []), (88, .aload_n 0, 89, []), (89, .ldc 62, 91, [])]), (95, [(91, .invokevirtual 63, 94, []), (94, .ireturn, 95, [])])]
theorem pk_X4_now : pgk cX4_now P_X4_now := by unfold pgk pk; decide +kernel
def P_X4_on : PG := [(27, [(0, .aload_n 0, 1, []), (1, .iload_n 1, 2, []), (2, .invokevirtual 128, 5, []), (5, .ifCond .eq 14, 8, [19]), (8, .iload_n 2, 9, []), (9, .iconst 0, 10, [0]), (10, .sipush 500, 13, [500]), (13, .invokestatic 78, 16, []), (16, .ifCond .ne 10, 19, [26]), (19, .aload_n 0, 20, []), (20, .ldc 62, 22, []), (22, .invokevirtual 63, 25, []), (25, .ireturn, 26, []), (26, .aload_n 0, 27, [])]), (56, [(27, .iload_n 2, 28, []), (28, .invokevirtual 167, 31, []), (31, .ifCond .eq 10, 34, [41]), (34, .aload_n 0, 35, []), (35, .ldc 170, 37, []), (37, .invokevirtual 63, 40, []), (40, .ireturn, 41, []), (41, .aload_n 0, 42, []), (42, .getfield 16, 45, []), (45, .aload_n 0, 46, []), (46, .getfield 12, 49, []), (49, .invokevirtual 190, 52, []), (52, .aload_n 0, 53, []), (53, .getfield 16, 56, [])]), (74, [(56, .iload_n 2, 57, []), (57, .invokevirtual 171, 60, []), (60, .pop, 61, []), (61, .aload_n 0, 62, []), (62, .getfield 16, 65, []), (65, .getfield 131, 68, []), (68, .iload_n 1, 69, []), (69, .aaload, 70, []), (70, .getfield 143, 73, []), (73, .ireturn, 74, [])])]
theorem pk_X4_on : pgk cX4_on P_X4_on := by unfold pgk pk; decide +kernel
def P_X4_river : PG := [(28, [(0, .aload_n 0, 1, []), (1, .iload_n 1, 2, []), (2, .invokevirtual 128, 5, []), (5, .ifCond .ne 10, 8, [15]), (8, .aload_n 0, 9, []), (9, .ldc 62, 11, []), (11, .invokevirtual 63, 14, []), (14, .ireturn, 15, []), (15, .aload_n 0, 16, []), (16, .sipush 500, 19, [500]), (19, .invokevirtual 167, 22, []), (22, .ifCond .eq 10, 25, [32]), (25, .aload_n 0, 26, []), (26, .ldc 170, 28, [])]), (54, [(28, .invokevirtual 63, 31, []), (31, .ireturn, 32, []), (32, .aload_n 0, 33, []), (33, .getfield 16, 36, []), (36, .aload_n 0, 37, []), (37, .getfield 12, 40, []), (40, .invokevirtual 190, 43, []), (43, .aload_n 0, 44, []), (44, .getfield 16, 47, []), (47, .getfield 131, 50, []), (50, .iload_n 1, 51, []), (51, .aaload, 52, []), (52, .astore_n 2, 53, []), (53, .iconst 0, 54, [0])]), (82, [(54, .istore_n 3, 55, []), (55, .iload_n 3, 56, []), (56, .sipush 500, 59, [500]), (59, .if_icmp .gt 33, 62, [92]), (62, .aload_n 0, 63, []), (63, .getfield 16, 66, []), (66, .aload_n 2, 67, []), (67, .getfield 143, 70, []), (70, .invokevirtual 94, 73, []), (73, .ifCond .eq 5, 76, [78]), (76, .iload_n 3, 77, []), (77, .ireturn, 78, []), (78, .aload_n 0, 79, []), (79, .getfield 16, 82, [])]), (99, [(82, .invokevirtual 194, 85, []), (85, .pop, 86, []), (86, .iinc 3 1, 89, [1]), (89, .goto (-34), 92, [55]), (92, .aload_n 0, 93, []), (93, .ldc 197, 95, []), (95, .invokevirtual 63, 98, []), (98, .ireturn, 99, [])])]
theorem pk_X4_river : pgk cX4_river P_X4_river := by unfold pgk pk; decide +kernel
def P_X4_meet : PG := [(27, [(0, .aload_n 0, 1, []), (1, .iload_n 1, 2, []), (2, .invokevirtual 128, 5, []), (5, .ifCond .eq 16, 8, [21]), (8, .aload_n 0, 9, []), (9, .iload_n 2, 10, []), (10, .invokevirtual 128, 13, []), (13, .ifCond .eq 8, 16, [21]), (16, .iload_n 1, 17, []), (17, .iload_n 2, 18, []), (18, .if_icmp .ne 10, 21, [28]), (21, .aload_n 0, 22, []), (22, .ldc 62, 24, []), (24, .invokevirtual 63, 27, [])]), (56, [(27, .ireturn, 28, []), (28, .aload_n 0, 29, []), (29, .sipush 500, 32, [500]), (32, .invokevirtual 167, 35, []), (35, .ifCond .eq 10, 38, [45]), (38, .aload_n 0, 39, []), (39, .ldc 170, 41, []), (41, .invokevirtual 63, 44, []), (44, .ireturn, 45, []), (45, .aload_n 0, 46, []), (46, .getfield 16, 49, []), (49, .aload_n 0, 50, []), (50, .getfield 12, 53, []), (53, .invokevirtual 190, 56, [])]), (84, [(56, .iconst 0, 57, [0]), (57, .istore_n 3, 58, []), (58, .iload_n 3, 59, []), (59, .sipush 500, 62, [500]), (62, .if_icmp .gt 46, 65, [108]), (65, .aload_n 0, 66, []), (66, .getfield 16, 69, []), (69, .getfield 131, 72, []), (72, .iload_n 1, 73, []), (73, .aaload, 74, []), (74, .getfield 143, 77, []), (77, .aload_n 0, 78, []), (78, .getfield 16, 81, []), (81, .getfield 131, 84, [])]), (111, [(84, .iload_n 2, 85, []), (85, .aaload, 86, []), (86, .getfield 143, 89, []), (89, .if_icmp .ne 5, 92, [94]), (92, .iload_n 3, 93, []), (93, .ireturn, 94, []), (94, .aload_n 0, 95, []), (95, .getfield 16, 98, []), (98, .invokevirtual 194, 101, []), (101, .pop, 102, []), (102, .iinc 3 1, 105, [1]), (105, .goto (-47), 108, [58]), (108, .aload_n 0, 109, []), (109, .ldc 197, 111, [])]), (115, [(111, .invokevirtual 63, 114, []), (114, .ireturn, 115, [])])]
theorem pk_X4_meet : pgk cX4_meet P_X4_meet := by unfold pgk pk; decide +kernel
def P_X4_home : PG := [(28, [(0, .aload_n 0, 1, []), (1, .iload_n 1, 2, []), (2, .invokevirtual 128, 5, []), (5, .ifCond .ne 10, 8, [15]), (8, .aload_n 0, 9, []), (9, .ldc 62, 11, []), (11, .invokevirtual 63, 14, []), (14, .ireturn, 15, []), (15, .aload_n 0, 16, []), (16, .sipush 500, 19, [500]), (19, .invokevirtual 167, 22, []), (22, .ifCond .eq 10, 25, [32]), (25, .aload_n 0, 26, []), (26, .ldc 170, 28, [])]), (54, [(28, .invokevirtual 63, 31, []), (31, .ireturn, 32, []), (32, .aload_n 0, 33, []), (33, .getfield 16, 36, []), (36, .aload_n 0, 37, []), (37, .getfield 12, 40, []), (40, .invokevirtual 190, 43, []), (43, .aload_n 0, 44, []), (44, .getfield 16, 47, []), (47, .getfield 131, 50, []), (50, .iload_n 1, 51, []), (51, .aaload, 52, []), (52, .astore_n 2, 53, []), (53, .iconst 1, 54, [1])]), (82, [(54, .istore_n 3, 55, []), (55, .iload_n 3, 56, []), (56, .sipush 500, 59, [500]), (59, .if_icmp .gt 30, 62, [89]), (62, .aload_n 0, 63, []), (63, .getfield 16, 66, []), (66, .invokevirtual 194, 69, []), (69, .pop, 70, []), (70, .aload_n 2, 71, []), (71, .getfield 143, 74, []), (74, .aload_n 2, 75, []), (75, .getfield 140, 78, []), (78, .if_icmp .ne 5, 81, [83]), (81, .iload_n 3, 82, [])]), (96, [(82, .ireturn, 83, []), (83, .iinc 3 1, 86, [1]), (86, .goto (-31), 89, [55]), (89, .aload_n 0, 90, []), (90, .ldc 197, 92, []), (92, .invokevirtual 63, 95, []), (95, .ireturn, 96, [])])]
theorem pk_X4_home : pgk cX4_home P_X4_home := by unfold pgk pk; decide +kernel
def P_X4_isSafe : PG := [(27, [(0, .aload_n 0, 1, []), (1, .getfield 16, 4, []), (4, .aload_n 0, 5, []), (5, .getfield 12, 8, []), (8, .invokevirtual 190, 11, []), (11, .aload_n 0, 12, []), (12, .getfield 16, 15, []), (15, .dup, 16, []), (16, .getfield 281, 19, []), (19, .lload_n 1, 20, []), (20, .lor, 21, []), (21, .putfield 281, 24, []), (24, .iconst 0, 25, [0]), (25, .istore 4, 27, [])]), (53, [(27, .iload 4, 29, []), (29, .iload_n 3, 30, []), (30, .if_icmp .ge 21, 33, [51]), (33, .aload_n 0, 34, []), (34, .getfield 16, 37, []), (37, .invokevirtual 194, 40, []), (40, .ifCond .le 5, 43, [45]), (43, .iconst 0, 44, [0]), (44, .ireturn, 45, []), (45, .iinc 4 1, 48, [1]), (48, .goto (-21), 51, [27]), (51, .iconst 1, 52, [1]), (52, .ireturn, 53, [])])]
theorem pk_X4_isSafe : pgk cX4_isSafe P_X4_isSafe := by unfold pgk pk; decide +kernel
def P_X4_safe : PG := [(27, [(0, .iload_n 1, 1, []), (1, .iconst 1, 2, [1]), (2, .sipush 500, 5, [500]), (5, .invokestatic 78, 8, []), (8, .ifCond .ne 10, 11, [18]), (11, .aload_n 0, 12, []), (12, .ldc 62, 14, []), (14, .invokevirtual 63, 17, []), (17, .ireturn, 18, []), (18, .aload_n 0, 19, []), (19, .iload_n 1, 20, []), (20, .invokevirtual 167, 23, []), (23, .ifCond .eq 10, 26, [33]), (26, .aload_n 0, 27, [])]), (48, [(27, .ldc 170, 29, []), (29, .invokevirtual 63, 32, []), (32, .ireturn, 33, []), (33, .aload_n 0, 34, []), (34, .lconst 0, 35, []), (35, .iload_n 1, 36, []), (36, .invokevirtual 198, 39, []), (39, .ifCond .eq 7, 42, [46]), (42, .iconst 1, 43, [1]), (43, .goto 4, 46, [47]), (46, .iconst 0, 47, [0]), (47, .ireturn, 48, [])])]
theorem pk_X4_safe : pgk cX4_safe P_X4_safe := by unfold pgk pk; decide +kernel
def P_X4_findBanks : PG := [(17, [(0, .iconst 0, 1, [0]), (1, .istore_n 1, 2, []), (2, .iconst 0, 3, [0]), (3, .istore_n 2, 4, []), (4, .iload_n 2, 5, []), (5, .bipush 50, 7, [50]), (7, .if_icmp .ge 94, 10, [101]), (10, .iload_n 2, 11, []), (11, .iconst 2, 12, [2]), (12, .idiv, 13, []), (13, .istore_n 3, 14, []), (14, .iload_n 3, 15, []), (15, .iload_n 2, 16, []), (16, .iconst 2, 17, [2])]), (47, [(17, .irem, 18, []), (18, .ifCond .ne 7, 21, [25]), (21, .iconst 1, 22, [1]), (22, .goto 4, 25, [26]), (25, .iconst 2, 26, [2]), (26, .invokestatic 228, 29, []), (29, .istore 4, 31, []), (31, .iload 4, 33, []), (33, .ifCond .lt 38, 36, [71]), (36, .aload_n 0, 37, []), (37, .getfield 12, 40, []), (40, .iload_n 2, 41, []), (41, .invokevirtual 71, 44, []), (44, .ifCond .ne 27, 47, [71])]), (76, [(47, .aload_n 0, 48, []), (48, .getfield 12, 51, []), (51, .iload_n 3, 52, []), (52, .invokevirtual 94, 55, []), (55, .aload_n 0, 56, []), (56, .getfield 12, 59, []), (59, .iload 4, 61, []), (61, .invokevirtual 94, 64, []), (64, .if_icmp .eq 7, 67, [71]), (67, .iconst 1, 68, [1]), (68, .goto 4, 71, [72]), (71, .iconst 0, 72, [0]), (72, .istore 5, 74, []), (74, .iload 5, 76, [])]), (103, [(76, .ifCond .eq 19, 79, [95]), (79, .iload_n 1, 80, []), (80, .bipush 40, 82, [40]), (82, .if_icmp .ge 13, 85, [95]), (85, .aload_n 0, 86, []), (86, .getfield 39, 89, []), (89, .iload_n 1, 90, []), (90, .iload_n 2, 91, []), (91, .iastore, 92, []), (92, .iinc 1 1, 95, [1]), (95, .iinc 2 1, 98, [1]), (98, .goto (-94), 101, [4]), (101, .iload_n 1, 102, []), (102, .ireturn, 103, [])])]
theorem pk_X4_findBanks : pgk cX4_findBanks P_X4_findBanks := by unfold pgk pk; decide +kernel
def P_X4_doorsOf : PG := [(21, [(0, .lconst 0, 1, []), (1, .lstore_n 3, 2, []), (2, .iconst 0, 3, [0]), (3, .istore 5, 5, []), (5, .iload 5, 7, []), (7, .iload_n 2, 8, []), (8, .if_icmp .ge 30, 11, [38]), (11, .iload_n 1, 12, []), (12, .iload 5, 14, []), (14, .ishr, 15, []), (15, .iconst 1, 16, [1]), (16, .iand, 17, []), (17, .ifCond .eq 15, 20, [32]), (20, .lload_n 3, 21, [])]), (40, [(21, .lconst 1, 22, []), (22, .aload_n 0, 23, []), (23, .getfield 39, 26, []), (26, .iload 5, 28, []), (28, .iaload, 29, []), (29, .lshl, 30, []), (30, .lor, 31, []), (31, .lstore_n 3, 32, []), (32, .iinc 5 1, 35, [1]), (35, .goto (-30), 38, [5]), (38, .lload_n 3, 39, []), (39, .lreturn, 40, [])])]
theorem pk_X4_doorsOf : pgk cX4_doorsOf P_X4_doorsOf := by unfold pgk pk; decide +kernel
def P_X4_leastBars : PG := [(23, [(0, .iconst 0, 1, [0]), (1, .istore_n 3, 2, []), (2, .iload_n 3, 3, []), (3, .iload_n 1, 4, []), (4, .if_icmp .gt 53, 7, [57]), (7, .iconst 0, 8, [0]), (8, .istore 4, 10, []), (10, .iload 4, 12, []), (12, .iconst 1, 13, [1]), (13, .iload_n 1, 14, []), (14, .ishl, 15, []), (15, .if_icmp .ge 36, 18, [51]), (18, .iload 4, 20, []), (20, .invokestatic 209, 23, [])]), (51, [(23, .iload_n 3, 24, []), (24, .if_icmp .ne 21, 27, [45]), (27, .aload_n 0, 28, []), (28, .aload_n 0, 29, []), (29, .iload 4, 31, []), (31, .iload_n 1, 32, []), (32, .invokevirtual 295, 35, []), (35, .iload_n 2, 36, []), (36, .invokevirtual 198, 39, []), (39, .ifCond .eq 6, 42, [45]), (42, .iload 4, 44, []), (44, .ireturn, 45, []), (45, .iinc 4 1, 48, [1]), (48, .goto (-38), 51, [10])]), (59, [(51, .iinc 3 1, 54, [1]), (54, .goto (-52), 57, [2]), (57, .iconst (-1), 58, [1, 1]), (58, .ireturn, 59, [])])]
theorem pk_X4_leastBars : pgk cX4_leastBars P_X4_leastBars := by unfold pgk pk; decide +kernel
def P_X4_barred : PG := [(26, [(0, .iload_n 1, 1, []), (1, .iconst 1, 2, [1]), (2, .bipush 120, 4, [120]), (4, .invokestatic 78, 7, []), (7, .ifCond .eq 12, 10, [19]), (10, .iload_n 2, 11, []), (11, .iconst 0, 12, [0]), (12, .iconst 1, 13, [1]), (13, .invokestatic 78, 16, []), (16, .ifCond .ne 10, 19, [26]), (19, .aload_n 0, 20, []), (20, .ldc 62, 22, []), (22, .invokevirtual 63, 25, []), (25, .ireturn, 26, [])]), (52, [(26, .aload_n 0, 27, []), (27, .iload_n 1, 28, []), (28, .invokevirtual 167, 31, []), (31, .ifCond .eq 10, 34, [41]), (34, .aload_n 0, 35, []), (35, .ldc 170, 37, []), (37, .invokevirtual 63, 40, []), (40, .ireturn, 41, []), (41, .aload_n 0, 42, []), (42, .invokevirtual 202, 45, []), (45, .istore_n 3, 46, []), (46, .iload_n 3, 47, []), (47, .bipush 12, 49, [12]), (49, .if_icmp .le 10, 52, [59])]), (78, [(52, .aload_n 0, 53, []), (53, .ldc 205, 55, []), (55, .invokevirtual 63, 58, []), (58, .ireturn, 59, []), (59, .aload_n 0, 60, []), (60, .iload_n 3, 61, []), (61, .iload_n 1, 62, []), (62, .invokevirtual 206, 65, []), (65, .istore 4, 67, []), (67, .iload 4, 69, []), (69, .ifCond .ge 10, 72, [79]), (72, .aload_n 0, 73, []), (73, .ldc 197, 75, []), (75, .invokevirtual 63, 78, [])]), (94, [(78, .ireturn, 79, []), (79, .iload_n 2, 80, []), (80, .ifCond .ne 11, 83, [91]), (83, .iload 4, 85, []), (85, .invokestatic 209, 88, []), (88, .goto 5, 91, [93]), (91, .iload 4, 93, []), (93, .ireturn, 94, [])])]
theorem pk_X4_barred : pgk cX4_barred P_X4_barred := by unfold pgk pk; decide +kernel
def P_X4_placesWithLamps : PG := [(28, [(0, .aload_n 0, 1, []), (1, .getfield 16, 4, []), (4, .aload_n 0, 5, []), (5, .getfield 12, 8, []), (8, .invokevirtual 190, 11, []), (11, .aload_n 0, 12, []), (12, .getfield 16, 15, []), (15, .iload_n 1, 16, []), (16, .putfield 214, 19, []), (19, .aload_n 0, 20, []), (20, .getfield 16, 23, []), (23, .iload_n 2, 24, []), (24, .invokevirtual 171, 27, []), (27, .pop, 28, [])]), (55, [(28, .lconst 0, 29, []), (29, .lstore_n 3, 30, []), (30, .iconst 0, 31, [0]), (31, .istore 5, 33, []), (33, .iload 5, 35, []), (35, .aload_n 0, 36, []), (36, .getfield 16, 39, []), (39, .getfield 121, 42, []), (42, .if_icmp .ge 32, 45, [74]), (45, .lload_n 3, 46, []), (46, .aload_n 0, 47, []), (47, .getfield 16, 50, []), (50, .getfield 131, 53, []), (53, .iload 5, 55, [])]), (76, [(55, .aaload, 56, []), (56, .getfield 143, 59, []), (59, .i2l, 60, []), (60, .bipush 8, 62, [8]), (62, .iload 5, 64, []), (64, .imul, 65, []), (65, .lshl, 66, []), (66, .lor, 67, []), (67, .lstore_n 3, 68, []), (68, .iinc 5 1, 71, [1]), (71, .goto (-38), 74, [33]), (74, .lload_n 3, 75, []), (75, .lreturn, 76, [])])]
theorem pk_X4_placesWithLamps : pgk cX4_placesWithLamps P_X4_placesWithLamps := by unfold pgk pk; decide +kernel
def P_X4_countOthers : PG := [(22, [(0, .iconst 0, 1, [0]), (1, .istore 4, 3, []), (3, .iconst 0, 4, [0]), (4, .istore 5, 6, []), (6, .iload 5, 8, []), (8, .bipush 8, 10, [8]), (10, .if_icmp .ge 30, 13, [40]), (13, .lload_n 0, 14, []), (14, .lload_n 2, 15, []), (15, .lxor, 16, []), (16, .bipush 8, 18, [8]), (18, .iload 5, 20, []), (20, .imul, 21, []), (21, .lushr, 22, [])]), (43, [(22, .ldc2_w 298, 25, []), (25, .land, 26, []), (26, .lconst 0, 27, []), (27, .lcmp, 28, []), (28, .ifCond .eq 6, 31, [34]), (31, .iinc 4 1, 34, [1]), (34, .iinc 5 1, 37, [1]), (37, .goto (-31), 40, [6]), (40, .iload 4, 42, []), (42, .ireturn, 43, [])])]
theorem pk_X4_countOthers : pgk cX4_countOthers P_X4_countOthers := by unfold pgk pk; decide +kernel
def P_X4_lamp : PG := [(26, [(0, .iload_n 1, 1, []), (1, .iconst 1, 2, [1]), (2, .bipush 120, 4, [120]), (4, .invokestatic 78, 7, []), (7, .ifCond .ne 10, 10, [17]), (10, .aload_n 0, 11, []), (11, .ldc 62, 13, []), (13, .invokevirtual 63, 16, []), (16, .ireturn, 17, []), (17, .aload_n 0, 18, []), (18, .iload_n 1, 19, []), (19, .invokevirtual 167, 22, []), (22, .ifCond .eq 10, 25, [32]), (25, .aload_n 0, 26, [])]), (51, [(26, .ldc 170, 28, []), (28, .invokevirtual 63, 31, []), (31, .ireturn, 32, []), (32, .aload_n 0, 33, []), (33, .aload_n 0, 34, []), (34, .getfield 12, 37, []), (37, .getfield 214, 40, []), (40, .iload_n 1, 41, []), (41, .invokevirtual 217, 44, []), (44, .lstore_n 2, 45, []), (45, .iconst (-1), 46, [1, 1]), (46, .istore 4, 48, []), (48, .iconst 0, 49, [0]), (49, .istore 5, 51, [])]), (79, [(51, .iconst 0, 52, [0]), (52, .istore 6, 54, []), (54, .iload 6, 56, []), (56, .bipush 25, 58, [25]), (58, .if_icmp .ge 59, 61, [117]), (61, .aload_n 0, 62, []), (62, .getfield 12, 65, []), (65, .iload 6, 67, []), (67, .invokevirtual 91, 70, []), (70, .ifCond .ne 41, 73, [111]), (73, .lload_n 2, 74, []), (74, .aload_n 0, 75, []), (75, .aload_n 0, 76, []), (76, .getfield 12, 79, [])]), (107, [(79, .getfield 214, 82, []), (82, .iconst 1, 83, [1]), (83, .iload 6, 85, []), (85, .ishl, 86, []), (86, .ior, 87, []), (87, .iload_n 1, 88, []), (88, .invokevirtual 217, 91, []), (91, .invokestatic 221, 94, []), (94, .istore 7, 96, []), (96, .iload 7, 98, []), (98, .iload 5, 100, []), (100, .if_icmp .le 11, 103, [111]), (103, .iload 7, 105, []), (105, .istore 5, 107, [])]), (134, [(107, .iload 6, 109, []), (109, .istore 4, 111, []), (111, .iinc 6 1, 114, [1]), (114, .goto (-60), 117, [54]), (117, .iload 4, 119, []), (119, .ifCond .ge 12, 122, [131]), (122, .aload_n 0, 123, []), (123, .ldc 197, 125, []), (125, .invokevirtual 63, 128, []), (128, .goto 5, 131, [133]), (131, .iload 4, 133, []), (133, .ireturn, 134, [])])]
theorem pk_X4_lamp : pgk cX4_lamp P_X4_lamp := by unfold pgk pk; decide +kernel
def P_X4_watch : PG := [(26, [(0, .iload_n 1, 1, []), (1, .iconst 1, 2, [1]), (2, .bipush 120, 4, [120]), (4, .invokestatic 78, 7, []), (7, .ifCond .ne 10, 10, [17]), (10, .aload_n 0, 11, []), (11, .ldc 62, 13, []), (13, .invokevirtual 63, 16, []), (16, .ireturn, 17, []), (17, .aload_n 0, 18, []), (18, .iload_n 1, 19, []), (19, .invokevirtual 167, 22, []), (22, .ifCond .eq 10, 25, [32]), (25, .aload_n 0, 26, [])]), (50, [(26, .ldc 170, 28, []), (28, .invokevirtual 63, 31, []), (31, .ireturn, 32, []), (32, .iconst 0, 33, [0]), (33, .istore_n 2, 34, []), (34, .iconst (-1), 35, [1, 1]), (35, .istore_n 3, 36, []), (36, .iconst 0, 37, [0]), (37, .istore 4, 39, []), (39, .iload 4, 41, []), (41, .bipush 25, 43, [25]), (43, .if_icmp .ge 66, 46, [109]), (46, .aload_n 0, 47, []), (47, .getfield 16, 50, [])]), (81, [(50, .aload_n 0, 51, []), (51, .getfield 12, 54, []), (54, .invokevirtual 190, 57, []), (57, .aload_n 0, 58, []), (58, .getfield 16, 61, []), (61, .invokevirtual 112, 64, []), (64, .aload_n 0, 65, []), (65, .getfield 16, 68, []), (68, .iload 4, 70, []), (70, .putfield 181, 73, []), (73, .aload_n 0, 74, []), (74, .getfield 16, 77, []), (77, .iload_n 1, 78, []), (78, .invokevirtual 171, 81, [])]), (109, [(81, .pop, 82, []), (82, .aload_n 0, 83, []), (83, .getfield 16, 86, []), (86, .invokevirtual 184, 89, []), (89, .istore 5, 91, []), (91, .iload 5, 93, []), (93, .iload_n 3, 94, []), (94, .if_icmp .le 9, 97, [103]), (97, .iload 5, 99, []), (99, .istore_n 3, 100, []), (100, .iload 4, 102, []), (102, .istore_n 2, 103, []), (103, .iinc 4 1, 106, [1]), (106, .goto (-67), 109, [39])]), (111, [(109, .iload_n 2, 110, []), (110, .ireturn, 111, [])])]
theorem pk_X4_watch : pgk cX4_watch P_X4_watch := by unfold pgk pk; decide +kernel
def P_X4_loop : PG := [(25, [(0, .aload_n 0, 1, []), (1, .iload_n 1, 2, []), (2, .invokevirtual 128, 5, []), (5, .ifCond .ne 10, 8, [15]), (8, .aload_n 0, 9, []), (9, .ldc 62, 11, []), (11, .invokevirtual 63, 14, []), (14, .ireturn, 15, []), (15, .aload_n 0, 16, []), (16, .getfield 12, 19, []), (19, .getfield 131, 22, []), (22, .iload_n 1, 23, []), (23, .aaload, 24, []), (24, .astore_n 2, 25, [])]), (56, [(25, .aload_n 2, 26, []), (26, .getfield 135, 29, []), (29, .ifCond .ne 24, 32, [53]), (32, .aload_n 2, 33, []), (33, .getfield 149, 36, []), (36, .ifCond .ne 17, 39, [53]), (39, .aload_n 0, 40, []), (40, .getfield 12, 43, []), (43, .aload_n 2, 44, []), (44, .getfield 143, 47, []), (47, .invokevirtual 94, 50, []), (50, .ifCond .eq 10, 53, [60]), (53, .aload_n 0, 54, []), (54, .ldc 170, 56, [])]), (84, [(56, .invokevirtual 63, 59, []), (59, .ireturn, 60, []), (60, .aload_n 2, 61, []), (61, .getfield 143, 64, []), (64, .istore_n 3, 65, []), (65, .aload_n 2, 66, []), (66, .getfield 146, 69, []), (69, .istore 4, 71, []), (71, .iconst 1, 72, [1]), (72, .istore 5, 74, []), (74, .iload 5, 76, []), (76, .sipush 500, 79, [500]), (79, .if_icmp .gt 78, 82, [157]), (82, .iload 4, 84, [])]), (113, [(84, .aload_n 0, 85, []), (85, .getfield 12, 88, []), (88, .iload_n 3, 89, []), (89, .invokevirtual 152, 92, []), (92, .invokestatic 225, 95, []), (95, .istore 6, 97, []), (97, .iload 6, 99, []), (99, .ifCond .lt 14, 102, [113]), (102, .iload 6, 104, []), (104, .istore 4, 106, []), (106, .iload_n 3, 107, []), (107, .iload 4, 109, []), (109, .invokestatic 228, 112, []), (112, .istore_n 3, 113, [])]), (141, [(113, .iload_n 3, 114, []), (114, .aload_n 2, 115, []), (115, .getfield 143, 118, []), (118, .if_icmp .ne 15, 121, [133]), (121, .iload 4, 123, []), (123, .aload_n 2, 124, []), (124, .getfield 146, 127, []), (127, .if_icmp .ne 6, 130, [133]), (130, .iload 5, 132, []), (132, .ireturn, 133, []), (133, .aload_n 0, 134, []), (134, .getfield 12, 137, []), (137, .iload_n 3, 138, []), (138, .invokevirtual 94, 141, [])]), (164, [(141, .ifCond .eq 10, 144, [151]), (144, .aload_n 0, 145, []), (145, .ldc 197, 147, []), (147, .invokevirtual 63, 150, []), (150, .ireturn, 151, []), (151, .iinc 5 1, 154, [1]), (154, .goto (-80), 157, [74]), (157, .aload_n 0, 158, []), (158, .ldc 197, 160, []), (160, .invokevirtual 63, 163, []), (163, .ireturn, 164, [])])]
theorem pk_X4_loop : pgk cX4_loop P_X4_loop := by unfold pgk pk; decide +kernel
def P_X4_spreadFrom : PG := [(28, [(0, .aload_n 0, 1, []), (1, .getfield 12, 4, []), (4, .iload_n 1, 5, []), (5, .invokevirtual 94, 8, []), (8, .ifCond .eq 7, 11, [15]), (11, .iconst 0, 12, [0]), (12, .goto 11, 15, [23]), (15, .aload_n 0, 16, []), (16, .getfield 12, 19, []), (19, .iload_n 1, 20, []), (20, .invokevirtual 152, 23, []), (23, .istore_n 2, 24, []), (24, .iload_n 2, 25, []), (25, .ifCond .ne 23, 28, [48])]), (48, [(28, .aload_n 0, 29, []), (29, .getfield 47, 32, []), (32, .iload_n 1, 33, []), (33, .dup2, 34, []), (34, .laload, 35, []), (35, .ldc2_w 309, 38, []), (38, .aload_n 0, 39, []), (39, .getfield 43, 42, []), (42, .iload_n 1, 43, []), (43, .laload, 44, []), (44, .lmul, 45, []), (45, .ladd, 46, []), (46, .lastore, 47, []), (47, .return_, 48, [])]), (69, [(48, .bipush 12, 50, [12]), (50, .iload_n 2, 51, []), (51, .invokestatic 209, 54, []), (54, .idiv, 55, []), (55, .i2l, 56, []), (56, .aload_n 0, 57, []), (57, .getfield 43, 60, []), (60, .iload_n 1, 61, []), (61, .laload, 62, []), (62, .lmul, 63, []), (63, .lstore_n 3, 64, []), (64, .iconst 0, 65, [0]), (65, .istore 5, 67, []), (67, .iload 5, 69, [])]), (94, [(69, .iconst 4, 70, [4]), (70, .if_icmp .ge 46, 73, [116]), (73, .iload_n 2, 74, []), (74, .iload 5, 76, []), (76, .ishr, 77, []), (77, .iconst 1, 78, [1]), (78, .iand, 79, []), (79, .ifCond .eq 12, 82, [91]), (82, .iload_n 1, 83, []), (83, .iload 5, 85, []), (85, .invokestatic 228, 88, []), (88, .goto 4, 91, [92]), (91, .iconst (-1), 92, [1, 1]), (92, .istore 6, 94, [])]), (117, [(94, .iload 6, 96, []), (96, .ifCond .lt 14, 99, [110]), (99, .aload_n 0, 100, []), (100, .getfield 47, 103, []), (103, .iload 6, 105, []), (105, .dup2, 106, []), (106, .laload, 107, []), (107, .lload_n 3, 108, []), (108, .ladd, 109, []), (109, .lastore, 110, []), (110, .iinc 5 1, 113, [1]), (113, .goto (-46), 116, [67]), (116, .return_, 117, [])])]
theorem pk_X4_spreadFrom : pgk cX4_spreadFrom P_X4_spreadFrom := by unfold pgk pk; decide +kernel
def P_X4_spreadOdds : PG := [(22, [(0, .aload_n 0, 1, []), (1, .getfield 43, 4, []), (4, .lconst 0, 5, []), (5, .invokestatic 300, 8, []), (8, .aload_n 0, 9, []), (9, .getfield 43, 12, []), (12, .iload_n 1, 13, []), (13, .lconst 1, 14, []), (14, .lastore, 15, []), (15, .iconst 0, 16, [0]), (16, .istore_n 3, 17, []), (17, .iload_n 3, 18, []), (18, .iload_n 2, 19, []), (19, .if_icmp .ge 54, 22, [73])]), (52, [(22, .aload_n 0, 23, []), (23, .getfield 47, 26, []), (26, .lconst 0, 27, []), (27, .invokestatic 300, 30, []), (30, .iconst 0, 31, [0]), (31, .istore 4, 33, []), (33, .iload 4, 35, []), (35, .bipush 25, 37, [25]), (37, .if_icmp .ge 15, 40, [52]), (40, .aload_n 0, 41, []), (41, .iload 4, 43, []), (43, .invokevirtual 306, 46, []), (46, .iinc 4 1, 49, [1]), (49, .goto (-16), 52, [33])]), (74, [(52, .aload_n 0, 53, []), (53, .getfield 47, 56, []), (56, .iconst 0, 57, [0]), (57, .aload_n 0, 58, []), (58, .getfield 43, 61, []), (61, .iconst 0, 62, [0]), (62, .bipush 25, 64, [25]), (64, .invokestatic 273, 67, []), (67, .iinc 3 1, 70, [1]), (70, .goto (-53), 73, [17]), (73, .return_, 74, [])])]
theorem pk_X4_spreadOdds : pgk cX4_spreadOdds P_X4_spreadOdds := by unfold pgk pk; decide +kernel
def P_X4_odds : PG := [(28, [(0, .aload_n 0, 1, []), (1, .iload_n 1, 2, []), (2, .invokevirtual 128, 5, []), (5, .ifCond .eq 20, 8, [25]), (8, .iload_n 2, 9, []), (9, .invokestatic 75, 12, []), (12, .ifCond .eq 13, 15, [25]), (15, .iload_n 3, 16, []), (16, .iconst 0, 17, [0]), (17, .bipush 15, 19, [15]), (19, .invokestatic 78, 22, []), (22, .ifCond .ne 11, 25, [33]), (25, .aload_n 0, 26, []), (26, .ldc 62, 28, [])]), (55, [(28, .invokevirtual 63, 31, []), (31, .i2l, 32, []), (32, .lreturn, 33, []), (33, .aload_n 0, 34, []), (34, .getfield 12, 37, []), (37, .getfield 131, 40, []), (40, .iload_n 1, 41, []), (41, .aaload, 42, []), (42, .getfield 135, 45, []), (45, .iconst 4, 46, [4]), (46, .if_icmp .eq 11, 49, [57]), (49, .aload_n 0, 50, []), (50, .ldc 170, 52, []), (52, .invokevirtual 63, 55, [])]), (79, [(55, .i2l, 56, []), (56, .lreturn, 57, []), (57, .aload_n 0, 58, []), (58, .aload_n 0, 59, []), (59, .getfield 12, 62, []), (62, .getfield 131, 65, []), (65, .iload_n 1, 66, []), (66, .aaload, 67, []), (67, .getfield 143, 70, []), (70, .iload_n 3, 71, []), (71, .invokevirtual 231, 74, []), (74, .aload_n 0, 75, []), (75, .getfield 43, 78, []), (78, .iload_n 2, 79, [])]), (81, [(79, .laload, 80, []), (80, .lreturn, 81, [])])]
theorem pk_X4_odds : pgk cX4_odds P_X4_odds := by unfold pgk pk; decide +kernel
def P_X4_likeliest : PG := [(26, [(0, .aload_n 0, 1, []), (1, .iload_n 1, 2, []), (2, .invokevirtual 128, 5, []), (5, .ifCond .eq 13, 8, [18]), (8, .iload_n 2, 9, []), (9, .iconst 0, 10, [0]), (10, .bipush 15, 12, [15]), (12, .invokestatic 78, 15, []), (15, .ifCond .ne 10, 18, [25]), (18, .aload_n 0, 19, []), (19, .ldc 62, 21, []), (21, .invokevirtual 63, 24, []), (24, .ireturn, 25, []), (25, .aload_n 0, 26, [])]), (53, [(26, .getfield 12, 29, []), (29, .getfield 131, 32, []), (32, .iload_n 1, 33, []), (33, .aaload, 34, []), (34, .getfield 135, 37, []), (37, .iconst 4, 38, [4]), (38, .if_icmp .eq 10, 41, [48]), (41, .aload_n 0, 42, []), (42, .ldc 170, 44, []), (44, .invokevirtual 63, 47, []), (47, .ireturn, 48, []), (48, .aload_n 0, 49, []), (49, .aload_n 0, 50, []), (50, .getfield 12, 53, [])]), (78, [(53, .getfield 131, 56, []), (56, .iload_n 1, 57, []), (57, .aaload, 58, []), (58, .getfield 143, 61, []), (61, .iload_n 2, 62, []), (62, .invokevirtual 231, 65, []), (65, .iconst 0, 66, [0]), (66, .istore_n 3, 67, []), (67, .iconst 1, 68, [1]), (68, .istore 4, 70, []), (70, .iload 4, 72, []), (72, .bipush 25, 74, [25]), (74, .if_icmp .ge 29, 77, [103]), (77, .aload_n 0, 78, [])]), (104, [(78, .getfield 43, 81, []), (81, .iload 4, 83, []), (83, .laload, 84, []), (84, .aload_n 0, 85, []), (85, .getfield 43, 88, []), (88, .iload_n 3, 89, []), (89, .laload, 90, []), (90, .lcmp, 91, []), (91, .ifCond .le 6, 94, [97]), (94, .iload 4, 96, []), (96, .istore_n 3, 97, []), (97, .iinc 4 1, 100, [1]), (100, .goto (-30), 103, [70]), (103, .iload_n 3, 104, [])]), (105, [(104, .ireturn, 105, [])])]
theorem pk_X4_likeliest : pgk cX4_likeliest P_X4_likeliest := by unfold pgk pk; decide +kernel
def P_X4_feed : PG := [(25, [(0, .iload_n 2, 1, []), (1, .iconst 1, 2, [1]), (2, .iconst 4, 3, [4]), (3, .invokestatic 78, 6, []), (6, .ifCond .ne 10, 9, [16]), (9, .aload_n 0, 10, []), (10, .ldc 62, 12, []), (12, .invokevirtual 63, 15, []), (15, .ireturn, 16, []), (16, .aload_n 0, 17, []), (17, .getfield 29, 20, []), (20, .getfield 235, 23, []), (23, .iload_n 2, 24, []), (24, .iadd, 25, [])]), (49, [(25, .bipush 120, 27, [120]), (27, .if_icmp .le 10, 30, [37]), (30, .aload_n 0, 31, []), (31, .ldc 107, 33, []), (33, .invokevirtual 63, 36, []), (36, .ireturn, 37, []), (37, .iload_n 2, 38, []), (38, .iconst 1, 39, [1]), (39, .isub, 40, []), (40, .istore_n 3, 41, []), (41, .iload_n 3, 42, []), (42, .ifCond .lt 22, 45, [64]), (45, .aload_n 0, 46, []), (46, .getfield 29, 49, [])]), (72, [(49, .iload_n 1, 50, []), (50, .bipush 8, 52, [8]), (52, .iload_n 3, 53, []), (53, .imul, 54, []), (54, .ishr, 55, []), (55, .invokevirtual 238, 58, []), (58, .iinc 3 (-1), 61, [1, 1]), (61, .goto (-20), 64, [41]), (64, .aload_n 0, 65, []), (65, .getfield 29, 68, []), (68, .getfield 235, 71, []), (71, .ireturn, 72, [])])]
theorem pk_X4_feed : pgk cX4_feed P_X4_feed := by unfold pgk pk; decide +kernel
def P_X4_wipe : PG := [(18, [(0, .aload_n 0, 1, []), (1, .getfield 29, 4, []), (4, .getfield 235, 7, []), (7, .istore_n 1, 8, []), (8, .aload_n 0, 9, []), (9, .getfield 29, 12, []), (12, .iconst 0, 13, [0]), (13, .putfield 235, 16, []), (16, .iload_n 1, 17, []), (17, .ireturn, 18, [])])]
theorem pk_X4_wipe : pgk cX4_wipe P_X4_wipe := by unfold pgk pk; decide +kernel
def P_X4_ward : PG := [(28, [(0, .aload_n 0, 1, []), (1, .getfield 16, 4, []), (4, .aload_n 0, 5, []), (5, .getfield 12, 8, []), (8, .invokevirtual 190, 11, []), (11, .aload_n 0, 12, []), (12, .getfield 29, 15, []), (15, .aload_n 0, 16, []), (16, .getfield 16, 19, []), (19, .invokevirtual 241, 22, []), (22, .istore_n 1, 23, []), (23, .aload_n 0, 24, []), (24, .getfield 29, 27, []), (27, .iconst 0, 28, [0])]), (56, [(28, .putfield 235, 31, []), (31, .aload_n 0, 32, []), (32, .getfield 29, 35, []), (35, .getfield 245, 38, []), (38, .ifCond .lt 13, 41, [51]), (41, .iconst (-1), 42, [1, 1]), (42, .aload_n 0, 43, []), (43, .getfield 29, 46, []), (46, .getfield 245, 49, []), (49, .isub, 50, []), (50, .ireturn, 51, []), (51, .aload_n 0, 52, []), (52, .getfield 12, 55, []), (55, .aload_n 0, 56, [])]), (64, [(56, .getfield 16, 59, []), (59, .invokevirtual 190, 62, []), (62, .iload_n 1, 63, []), (63, .ireturn, 64, [])])]
theorem pk_X4_ward : pgk cX4_ward P_X4_ward := by unfold pgk pk; decide +kernel
def P_X4_isSheet : PG := [(7, [(0, .iload_n 0, 1, []), (1, .iconst 0, 2, [0]), (2, .iconst 3, 3, [3]), (3, .invokestatic 78, 6, []), (6, .ireturn, 7, [])])]
theorem pk_X4_isSheet : pgk cX4_isSheet P_X4_isSheet := by unfold pgk pk; decide +kernel
def P_X4_sheet : PG := [(29, [(0, .iload_n 1, 1, []), (1, .invokestatic 248, 4, []), (4, .ifCond .eq 25, 7, [29]), (7, .iload_n 2, 8, []), (8, .ifCond .eq 28, 11, [36]), (11, .iload_n 2, 12, []), (12, .bipush 8, 14, [8]), (14, .if_icmp .eq 22, 17, [36]), (17, .iload_n 2, 18, []), (18, .bipush 16, 20, [16]), (20, .if_icmp .eq 16, 23, [36]), (23, .iload_n 2, 24, []), (24, .bipush 64, 26, [64]), (26, .if_icmp .eq 10, 29, [36])]), (54, [(29, .aload_n 0, 30, []), (30, .ldc 62, 32, []), (32, .invokevirtual 63, 35, []), (35, .ireturn, 36, []), (36, .iload_n 3, 37, []), (37, .ifCond .ge 10, 40, [47]), (40, .aload_n 0, 41, []), (41, .ldc 205, 43, []), (43, .invokevirtual 63, 46, []), (46, .ireturn, 47, []), (47, .iload_n 3, 48, []), (48, .bipush 40, 50, [40]), (50, .if_icmp .le 10, 53, [60]), (53, .aload_n 0, 54, [])]), (77, [(54, .ldc 62, 56, []), (56, .invokevirtual 63, 59, []), (59, .ireturn, 60, []), (60, .aload_n 0, 61, []), (61, .getfield 35, 64, []), (64, .iload_n 1, 65, []), (65, .aaload, 66, []), (66, .iload_n 2, 67, []), (67, .iload_n 3, 68, []), (68, .invokevirtual 251, 71, []), (71, .aload_n 0, 72, []), (72, .getfield 35, 75, []), (75, .iload_n 1, 76, []), (76, .aaload, 77, [])]), (81, [(77, .getfield 254, 80, []), (80, .ireturn, 81, [])])]
theorem pk_X4_sheet : pgk cX4_sheet P_X4_sheet := by unfold pgk pk; decide +kernel
def P_X4_write : PG := [(25, [(0, .iload_n 1, 1, []), (1, .invokestatic 248, 4, []), (4, .ifCond .ne 11, 7, [15]), (7, .aload_n 0, 8, []), (8, .ldc 62, 10, []), (10, .invokevirtual 63, 13, []), (13, .i2l, 14, []), (14, .lreturn, 15, []), (15, .aload_n 0, 16, []), (16, .getfield 35, 19, []), (19, .iload_n 1, 20, []), (20, .aaload, 21, []), (21, .astore 5, 23, []), (23, .aload 5, 25, [])]), (52, [(25, .invokevirtual 255, 28, []), (28, .ifCond .eq 12, 31, [40]), (31, .aload_n 0, 32, []), (32, .ldc_w 259, 35, []), (35, .invokevirtual 63, 38, []), (38, .i2l, 39, []), (39, .lreturn, 40, []), (40, .iload_n 2, 41, []), (41, .iconst 0, 42, [0]), (42, .aload 5, 44, []), (44, .getfield 254, 47, []), (47, .iconst 1, 48, [1]), (48, .isub, 49, []), (49, .invokestatic 78, 52, [])]), (76, [(52, .ifCond .ne 11, 55, [63]), (55, .aload_n 0, 56, []), (56, .ldc 62, 58, []), (58, .invokevirtual 63, 61, []), (61, .i2l, 62, []), (62, .lreturn, 63, []), (63, .aload 5, 65, []), (65, .getfield 260, 68, []), (68, .iload_n 2, 69, []), (69, .laload, 70, []), (70, .lstore 6, 72, []), (72, .aload 5, 74, []), (74, .iload_n 2, 75, []), (75, .lload_n 3, 76, [])]), (82, [(76, .invokevirtual 263, 79, []), (79, .lload 6, 81, []), (81, .lreturn, 82, [])])]
theorem pk_X4_write : pgk cX4_write P_X4_write := by unfold pgk pk; decide +kernel
def P_X4_copy : PG := [(27, [(0, .iload_n 1, 1, []), (1, .invokestatic 248, 4, []), (4, .ifCond .eq 10, 7, [14]), (7, .iload_n 3, 8, []), (8, .invokestatic 248, 11, []), (11, .ifCond .ne 10, 14, [21]), (14, .aload_n 0, 15, []), (15, .ldc 62, 17, []), (17, .invokevirtual 63, 20, []), (20, .ireturn, 21, []), (21, .aload_n 0, 22, []), (22, .getfield 35, 25, []), (25, .iload_n 1, 26, []), (26, .aaload, 27, [])]), (57, [(27, .astore 6, 29, []), (29, .aload_n 0, 30, []), (30, .getfield 35, 33, []), (33, .iload_n 3, 34, []), (34, .aaload, 35, []), (35, .astore 7, 37, []), (37, .aload 6, 39, []), (39, .invokevirtual 255, 42, []), (42, .ifCond .ne 11, 45, [53]), (45, .aload 7, 47, []), (47, .invokevirtual 255, 50, []), (50, .ifCond .eq 11, 53, [61]), (53, .aload_n 0, 54, []), (54, .ldc_w 259, 57, [])]), (86, [(57, .invokevirtual 63, 60, []), (60, .ireturn, 61, []), (61, .aload 6, 63, []), (63, .getfield 267, 66, []), (66, .aload 7, 68, []), (68, .getfield 267, 71, []), (71, .if_icmp .eq 10, 74, [81]), (74, .aload_n 0, 75, []), (75, .ldc 159, 77, []), (77, .invokevirtual 63, 80, []), (80, .ireturn, 81, []), (81, .aload 6, 83, []), (83, .iload_n 2, 84, []), (84, .iload 5, 86, [])]), (117, [(86, .invokevirtual 270, 89, []), (89, .ifCond .eq 15, 92, [104]), (92, .aload 7, 94, []), (94, .iload 4, 96, []), (96, .iload 5, 98, []), (98, .invokevirtual 270, 101, []), (101, .ifCond .ne 10, 104, [111]), (104, .aload_n 0, 105, []), (105, .ldc 62, 107, []), (107, .invokevirtual 63, 110, []), (110, .ireturn, 111, []), (111, .aload 6, 113, []), (113, .getfield 260, 116, []), (116, .iload_n 2, 117, [])]), (132, [(117, .aload 7, 119, []), (119, .getfield 260, 122, []), (122, .iload 4, 124, []), (124, .iload 5, 126, []), (126, .invokestatic 273, 129, []), (129, .iload 5, 131, []), (131, .ireturn, 132, [])])]
theorem pk_X4_copy : pgk cX4_copy P_X4_copy := by unfold pgk pk; decide +kernel
def P_X4_lays : PG := [(25, [(0, .iload_n 1, 1, []), (1, .invokestatic 248, 4, []), (4, .ifCond .ne 10, 7, [14]), (7, .aload_n 0, 8, []), (8, .ldc 62, 10, []), (10, .invokevirtual 63, 13, []), (13, .ireturn, 14, []), (14, .aload_n 0, 15, []), (15, .getfield 35, 18, []), (18, .iload_n 1, 19, []), (19, .aaload, 20, []), (20, .astore_n 2, 21, []), (21, .aload_n 2, 22, []), (22, .invokevirtual 255, 25, [])]), (52, [(25, .ifCond .eq 11, 28, [36]), (28, .aload_n 0, 29, []), (29, .ldc_w 259, 32, []), (32, .invokevirtual 63, 35, []), (35, .ireturn, 36, []), (36, .iconst 0, 37, [0]), (37, .istore_n 3, 38, []), (38, .iconst 0, 39, [0]), (39, .istore 4, 41, []), (41, .iload 4, 43, []), (43, .aload_n 2, 44, []), (44, .getfield 254, 47, []), (47, .if_icmp .ge 57, 50, [104]), (50, .iload 4, 52, [])]), (79, [(52, .bipush 25, 54, [25]), (54, .if_icmp .ge 50, 57, [104]), (57, .aload_n 2, 58, []), (58, .getfield 260, 61, []), (61, .iload 4, 63, []), (63, .laload, 64, []), (64, .lstore 5, 66, []), (66, .lload 5, 68, []), (68, .lconst 0, 69, []), (69, .lcmp, 70, []), (70, .ifCond .lt 28, 73, [98]), (73, .lload 5, 75, []), (75, .ldc2_w 279, 78, []), (78, .lcmp, 79, [])]), (106, [(79, .ifCond .gt 19, 82, [98]), (82, .aload_n 0, 83, []), (83, .getfield 12, 86, []), (86, .getfield 82, 89, []), (89, .iload 4, 91, []), (91, .lload 5, 93, []), (93, .l2i, 94, []), (94, .iastore, 95, []), (95, .iinc 3 1, 98, [1]), (98, .iinc 4 1, 101, [1]), (101, .goto (-60), 104, [41]), (104, .iload_n 3, 105, []), (105, .ireturn, 106, [])])]
theorem pk_X4_lays : pgk cX4_lays P_X4_lays := by unfold pgk pk; decide +kernel
def P_X4_track : PG := [(25, [(0, .iload_n 1, 1, []), (1, .invokestatic 248, 4, []), (4, .ifCond .ne 10, 7, [14]), (7, .aload_n 0, 8, []), (8, .ldc 62, 10, []), (10, .invokevirtual 63, 13, []), (13, .ireturn, 14, []), (14, .aload_n 0, 15, []), (15, .getfield 35, 18, []), (18, .iload_n 1, 19, []), (19, .aaload, 20, []), (20, .astore_n 3, 21, []), (21, .aload_n 3, 22, []), (22, .invokevirtual 255, 25, [])]), (52, [(25, .ifCond .eq 11, 28, [36]), (28, .aload_n 0, 29, []), (29, .ldc_w 259, 32, []), (32, .invokevirtual 63, 35, []), (35, .ireturn, 36, []), (36, .aload_n 0, 37, []), (37, .iload_n 2, 38, []), (38, .invokevirtual 128, 41, []), (41, .ifCond .ne 10, 44, [51]), (44, .aload_n 0, 45, []), (45, .ldc 62, 47, []), (47, .invokevirtual 63, 50, []), (50, .ireturn, 51, []), (51, .aload_n 0, 52, [])]), (82, [(52, .sipush 500, 55, [500]), (55, .invokevirtual 167, 58, []), (58, .ifCond .eq 10, 61, [68]), (61, .aload_n 0, 62, []), (62, .ldc 170, 64, []), (64, .invokevirtual 63, 67, []), (67, .ireturn, 68, []), (68, .aload_n 0, 69, []), (69, .getfield 16, 72, []), (72, .aload_n 0, 73, []), (73, .getfield 12, 76, []), (76, .invokevirtual 190, 79, []), (79, .iconst 0, 80, [0]), (80, .istore 4, 82, [])]), (110, [(82, .iload 4, 84, []), (84, .aload_n 3, 85, []), (85, .getfield 254, 88, []), (88, .if_icmp .ge 36, 91, [124]), (91, .aload_n 3, 92, []), (92, .iload 4, 94, []), (94, .aload_n 0, 95, []), (95, .getfield 16, 98, []), (98, .getfield 131, 101, []), (101, .iload_n 2, 102, []), (102, .aaload, 103, []), (103, .getfield 143, 106, []), (106, .i2l, 107, []), (107, .invokevirtual 263, 110, [])]), (129, [(110, .aload_n 0, 111, []), (111, .getfield 16, 114, []), (114, .invokevirtual 194, 117, []), (117, .pop, 118, []), (118, .iinc 4 1, 121, [1]), (121, .goto (-39), 124, [82]), (124, .aload_n 3, 125, []), (125, .getfield 254, 128, []), (128, .ireturn, 129, [])])]
theorem pk_X4_track : pgk cX4_track P_X4_track := by unfold pgk pk; decide +kernel
def P_X4_whose : PG := [(25, [(0, .iload_n 1, 1, []), (1, .invokestatic 248, 4, []), (4, .ifCond .ne 10, 7, [14]), (7, .aload_n 0, 8, []), (8, .ldc 62, 10, []), (10, .invokevirtual 63, 13, []), (13, .ireturn, 14, []), (14, .aload_n 0, 15, []), (15, .getfield 35, 18, []), (18, .iload_n 1, 19, []), (19, .aaload, 20, []), (20, .astore_n 2, 21, []), (21, .aload_n 2, 22, []), (22, .invokevirtual 255, 25, [])]), (54, [(25, .ifCond .eq 11, 28, [36]), (28, .aload_n 0, 29, []), (29, .ldc_w 259, 32, []), (32, .invokevirtual 63, 35, []), (35, .ireturn, 36, []), (36, .aload_n 0, 37, []), (37, .sipush 500, 40, [500]), (40, .invokevirtual 167, 43, []), (43, .ifCond .eq 10, 46, [53]), (46, .aload_n 0, 47, []), (47, .ldc 170, 49, []), (49, .invokevirtual 63, 52, []), (52, .ireturn, 53, []), (53, .iconst 1, 54, [1])]), (79, [(54, .aload_n 0, 55, []), (55, .getfield 12, 58, []), (58, .getfield 121, 61, []), (61, .ishl, 62, []), (62, .iconst 1, 63, [1]), (63, .isub, 64, []), (64, .istore_n 3, 65, []), (65, .aload_n 0, 66, []), (66, .getfield 16, 69, []), (69, .aload_n 0, 70, []), (70, .getfield 12, 73, []), (73, .invokevirtual 190, 76, []), (76, .iconst 0, 77, [0]), (77, .istore 4, 79, [])]), (105, [(79, .iload 4, 81, []), (81, .aload_n 2, 82, []), (82, .getfield 254, 85, []), (85, .if_icmp .ge 34, 88, [119]), (88, .iload_n 3, 89, []), (89, .aload_n 0, 90, []), (90, .getfield 16, 93, []), (93, .aload_n 2, 94, []), (94, .getfield 260, 97, []), (97, .iload 4, 99, []), (99, .laload, 100, []), (100, .invokevirtual 97, 103, []), (103, .iand, 104, []), (104, .istore_n 3, 105, [])]), (135, [(105, .aload_n 0, 106, []), (106, .getfield 16, 109, []), (109, .invokevirtual 194, 112, []), (112, .pop, 113, []), (113, .iinc 4 1, 116, [1]), (116, .goto (-37), 119, [79]), (119, .iconst 0, 120, [0]), (120, .istore 4, 122, []), (122, .iload 4, 124, []), (124, .aload_n 0, 125, []), (125, .getfield 12, 128, []), (128, .getfield 121, 131, []), (131, .if_icmp .ge 21, 134, [152]), (134, .iload_n 3, 135, [])]), (159, [(135, .iload 4, 137, []), (137, .ishr, 138, []), (138, .iconst 1, 139, [1]), (139, .iand, 140, []), (140, .ifCond .eq 6, 143, [146]), (143, .iload 4, 145, []), (145, .ireturn, 146, []), (146, .iinc 4 1, 149, [1]), (149, .goto (-27), 152, [122]), (152, .aload_n 0, 153, []), (153, .ldc 197, 155, []), (155, .invokevirtual 63, 158, []), (158, .ireturn, 159, [])])]
theorem pk_X4_whose : pgk cX4_whose P_X4_whose := by unfold pgk pk; decide +kernel
def P_X4_image : PG := [(18, [(0, .aload_n 0, 1, []), (1, .getfield 19, 4, []), (4, .aload_n 0, 5, []), (5, .getfield 12, 8, []), (8, .invokevirtual 190, 11, []), (11, .aload_n 0, 12, []), (12, .iconst 1, 13, [1]), (13, .putfield 22, 16, []), (16, .iconst 1, 17, [1]), (17, .ireturn, 18, [])])]
theorem pk_X4_image : pgk cX4_image P_X4_image := by unfold pgk pk; decide +kernel
def P_X4_undo : PG := [(29, [(0, .aload_n 0, 1, []), (1, .getfield 22, 4, []), (4, .ifCond .ne 10, 7, [14]), (7, .aload_n 0, 8, []), (8, .ldc 197, 10, []), (10, .invokevirtual 63, 13, []), (13, .ireturn, 14, []), (14, .aload_n 0, 15, []), (15, .getfield 12, 18, []), (18, .aload_n 0, 19, []), (19, .getfield 19, 22, []), (22, .invokevirtual 190, 25, []), (25, .aload_n 0, 26, []), (26, .getfield 12, 29, [])]), (33, [(29, .getfield 121, 32, []), (32, .ireturn, 33, [])])]
theorem pk_X4_undo : pgk cX4_undo P_X4_undo := by unfold pgk pk; decide +kernel
def P_X4_tear : PG := [(20, [(0, .aload_n 0, 1, []), (1, .getfield 22, 4, []), (4, .ifCond .eq 7, 7, [11]), (7, .iconst 1, 8, [1]), (8, .goto 4, 11, [12]), (11, .iconst 0, 12, [0]), (12, .istore_n 1, 13, []), (13, .aload_n 0, 14, []), (14, .iconst 0, 15, [0]), (15, .putfield 22, 18, []), (18, .iload_n 1, 19, []), (19, .ireturn, 20, [])])]
theorem pk_X4_tear : pgk cX4_tear P_X4_tear := by unfold pgk pk; decide +kernel
def P_J13_bitCount_95d88 : PG := [(18, [(0, .lload_n 0, 1, []), (1, .lload_n 0, 2, []), (2, .iconst 1, 3, [1]), (3, .lushr, 4, []), (4, .ldc2_w 314, 7, []), (7, .land, 8, []), (8, .lsub, 9, []), (9, .lstore_n 0, 10, []), (10, .lload_n 0, 11, []), (11, .ldc2_w 316, 14, []), (14, .land, 15, []), (15, .lload_n 0, 16, []), (16, .iconst 2, 17, [2]), (17, .lushr, 18, [])]), (36, [(18, .ldc2_w 316, 21, []), (21, .land, 22, []), (22, .ladd, 23, []), (23, .lstore_n 0, 24, []), (24, .lload_n 0, 25, []), (25, .lload_n 0, 26, []), (26, .iconst 4, 27, [4]), (27, .lushr, 28, []), (28, .ladd, 29, []), (29, .ldc2_w 318, 32, []), (32, .land, 33, []), (33, .lstore_n 0, 34, []), (34, .lload_n 0, 35, []), (35, .lload_n 0, 36, [])]), (53, [(36, .bipush 8, 38, [8]), (38, .lushr, 39, []), (39, .ladd, 40, []), (40, .lstore_n 0, 41, []), (41, .lload_n 0, 42, []), (42, .lload_n 0, 43, []), (43, .bipush 16, 45, [16]), (45, .lushr, 46, []), (46, .ladd, 47, []), (47, .lstore_n 0, 48, []), (48, .lload_n 0, 49, []), (49, .lload_n 0, 50, []), (50, .bipush 32, 52, [32]), (52, .lushr, 53, [])]), (61, [(53, .ladd, 54, []), (54, .lstore_n 0, 55, []), (55, .lload_n 0, 56, []), (56, .l2i, 57, []), (57, .bipush 127, 59, [127]), (59, .iand, 60, []), (60, .ireturn, 61, [])])]
theorem pk_J13_bitCount_95d88 : pgk cJ13_bitCount_95d88 P_J13_bitCount_95d88 := by unfold pgk pk; decide +kernel
def P_X4_count : PG := [(70, [(0, .iload_n 1, 1, []), (1, .tableswitch 108 0 6 #[43, 51, 62, 73, 84, 92, 100], 44, [109, 44, 52, 63, 74, 85, 93, 101]), (44, .aload_n 0, 45, []), (45, .getfield 12, 48, []), (48, .getfield 121, 51, []), (51, .ireturn, 52, []), (52, .aload_n 0, 53, []), (53, .getfield 12, 56, []), (56, .getfield 281, 59, []), (59, .invokestatic 285, 62, []), (62, .ireturn, 63, []), (63, .aload_n 0, 64, []), (64, .getfield 12, 67, []), (67, .getfield 214, 70, [])]), (100, [(70, .invokestatic 209, 73, []), (73, .ireturn, 74, []), (74, .aload_n 0, 75, []), (75, .getfield 12, 78, []), (78, .getfield 289, 81, []), (81, .invokestatic 209, 84, []), (84, .ireturn, 85, []), (85, .aload_n 0, 86, []), (86, .getfield 12, 89, []), (89, .getfield 104, 92, []), (92, .ireturn, 93, []), (93, .aload_n 0, 94, []), (94, .getfield 29, 97, []), (97, .getfield 235, 100, [])]), (116, [(100, .ireturn, 101, []), (101, .aload_n 0, 102, []), (102, .getfield 12, 105, []), (105, .getfield 160, 108, []), (108, .ireturn, 109, []), (109, .aload_n 0, 110, []), (110, .ldc 62, 112, []), (112, .invokevirtual 63, 115, []), (115, .ireturn, 116, [])])]
theorem pk_X4_count : pgk cX4_count P_X4_count := by unfold pgk pk; decide +kernel
def P_X4_status : PG := [(26, [(0, .iload_n 1, 1, []), (1, .iconst (-1), 2, [1, 1]), (2, .if_icmp .ne 8, 5, [10]), (5, .aload_n 0, 6, []), (6, .getfield 53, 9, []), (9, .ireturn, 10, []), (10, .iload_n 1, 11, []), (11, .iconst 0, 12, [0]), (12, .bipush 6, 14, [6]), (14, .invokestatic 78, 17, []), (17, .ifCond .ne 10, 20, [27]), (20, .aload_n 0, 21, []), (21, .ldc 62, 23, []), (23, .invokevirtual 63, 26, [])]), (34, [(26, .ireturn, 27, []), (27, .aload_n 0, 28, []), (28, .getfield 50, 31, []), (31, .iload_n 1, 32, []), (32, .iaload, 33, []), (33, .ireturn, 34, [])])]
theorem pk_X4_status : pgk cX4_status P_X4_status := by unfold pgk pk; decide +kernel
end
section
/-! programs, each held against its bytes -/
def P_X5_in : PG := [(16, [(0, .iload_n 0, 1, []), (1, .iload_n 1, 2, []), (2, .if_icmp .lt 12, 5, [14]), (5, .iload_n 0, 6, []), (6, .iload_n 2, 7, []), (7, .if_icmp .gt 7, 10, [14]), (10, .iconst 1, 11, [1]), (11, .goto 4, 14, [15]), (14, .iconst 0, 15, [0]), (15, .ireturn, 16, [])])]
theorem pk_X5_in : pgk cX5_in P_X5_in := by unfold pgk pk; decide +kernel
def P_X5_no : PG := [(15, [(0, .aload_n 0, 1, []), (1, .getfield 22, 4, []), (4, .iload_n 1, 5, []), (5, .dup2, 6, []), (6, .iaload, 7, []), (7, .iconst 1, 8, [1]), (8, .iadd, 9, []), (9, .iastore, 10, []), (10, .ldc 53, 12, []), (12, .iload_n 1, 13, []), (13, .isub, 14, []), (14, .ireturn, 15, [])])]
theorem pk_X5_no : pgk cX5_no P_X5_no := by unfold pgk pk; decide +kernel
def P_X5_lay : PG := [(22, [(0, .iconst 0, 1, [0]), (1, .istore_n 2, 2, []), (2, .iload_n 2, 3, []), (3, .sipush 184, 6, [184]), (6, .if_icmp .ge 15, 9, [21]), (9, .aload_n 1, 10, []), (10, .iload_n 2, 11, []), (11, .aload_n 0, 12, []), (12, .iload_n 2, 13, []), (13, .iaload, 14, []), (14, .iastore, 15, []), (15, .iinc 2 1, 18, [1]), (18, .goto (-16), 21, [2]), (21, .return_, 22, [])])]
theorem pk_X5_lay : pgk cX5_lay P_X5_lay := by unfold pgk pk; decide +kernel
def P_X5_draw : PG := [(23, [(0, .aload_n 0, 1, []), (1, .getfield 9, 4, []), (4, .iconst 1, 5, [1]), (5, .aload_n 0, 6, []), (6, .getfield 9, 9, []), (9, .iconst 1, 10, [1]), (10, .iaload, 11, []), (11, .ldc 54, 13, []), (13, .imul, 14, []), (14, .sipush 12345, 17, [12345]), (17, .iadd, 18, []), (18, .iastore, 19, []), (19, .aload_n 0, 20, []), (20, .getfield 9, 23, [])]), (29, [(23, .iconst 1, 24, [1]), (24, .iaload, 25, []), (25, .bipush 8, 27, [8]), (27, .iushr, 28, []), (28, .ireturn, 29, [])])]
theorem pk_X5_draw : pgk cX5_draw P_X5_draw := by unfold pgk pk; decide +kernel
def P_X5_isSquare : PG := [(8, [(0, .iload_n 0, 1, []), (1, .iconst 0, 2, [0]), (2, .bipush 24, 4, [24]), (4, .invokestatic 55, 7, []), (7, .ireturn, 8, [])])]
theorem pk_X5_isSquare : pgk cX5_isSquare P_X5_isSquare := by unfold pgk pk; decide +kernel
def P_X5_isWay : PG := [(7, [(0, .iload_n 0, 1, []), (1, .iconst 0, 2, [0]), (2, .iconst 3, 3, [3]), (3, .invokestatic 55, 6, []), (6, .ireturn, 7, [])])]
theorem pk_X5_isWay : pgk cX5_isWay P_X5_isWay := by unfold pgk pk; decide +kernel
def P_X5_isWalker : PG := [(15, [(0, .iload_n 1, 1, []), (1, .iconst 0, 2, [0]), (2, .aload_n 0, 3, []), (3, .getfield 9, 6, []), (6, .bipush 6, 8, [6]), (8, .iaload, 9, []), (9, .iconst 1, 10, [1]), (10, .isub, 11, []), (11, .invokestatic 55, 14, []), (14, .ireturn, 15, [])])]
theorem pk_X5_isWalker : pgk cX5_isWalker P_X5_isWalker := by unfold pgk pk; decide +kernel
def P_X5_has : PG := [(15, [(0, .aload_n 0, 1, []), (1, .getfield 9, 4, []), (4, .sipush 144, 7, [144]), (7, .iconst 5, 8, [5]), (8, .iload_n 1, 9, []), (9, .imul, 10, []), (10, .iadd, 11, []), (11, .iload_n 2, 12, []), (12, .iadd, 13, []), (13, .iaload, 14, []), (14, .ireturn, 15, [])])]
theorem pk_X5_has : pgk cX5_has P_X5_has := by unfold pgk pk; decide +kernel
def P_X5_gets : PG := [(21, [(0, .aload_n 0, 1, []), (1, .iload_n 1, 2, []), (2, .iload_n 2, 3, []), (3, .invokevirtual 59, 6, []), (6, .istore 4, 8, []), (8, .aload_n 0, 9, []), (9, .getfield 9, 12, []), (12, .sipush 144, 15, [144]), (15, .iconst 5, 16, [5]), (16, .iload_n 1, 17, []), (17, .imul, 18, []), (18, .iadd, 19, []), (19, .iload_n 2, 20, []), (20, .iadd, 21, [])]), (26, [(21, .iload_n 3, 22, []), (22, .iastore, 23, []), (23, .iload 4, 25, []), (25, .ireturn, 26, [])])]
theorem pk_X5_gets : pgk cX5_gets P_X5_gets := by unfold pgk pk; decide +kernel
def P_X5_puts : PG := [(16, [(0, .aload_n 0, 1, []), (1, .getfield 9, 4, []), (4, .iload_n 1, 5, []), (5, .iaload, 6, []), (6, .istore_n 3, 7, []), (7, .aload_n 0, 8, []), (8, .getfield 9, 11, []), (11, .iload_n 1, 12, []), (12, .iload_n 2, 13, []), (13, .iastore, 14, []), (14, .iload_n 3, 15, []), (15, .ireturn, 16, [])])]
theorem pk_X5_puts : pgk cX5_puts P_X5_puts := by unfold pgk pk; decide +kernel
def P_X5_beside : PG := [(44, [(0, .iload_n 1, 1, []), (1, .tableswitch 60 0 2 #[27, 31, 46], 28, [61, 28, 32, 47]), (28, .iload_n 0, 29, []), (29, .iconst 5, 30, [5]), (30, .isub, 31, []), (31, .ireturn, 32, []), (32, .iload_n 0, 33, []), (33, .iconst 5, 34, [5]), (34, .irem, 35, []), (35, .iconst 4, 36, [4]), (36, .if_icmp .ne 7, 39, [43]), (39, .iconst (-1), 40, [1, 1]), (40, .goto 6, 43, [46]), (43, .iload_n 0, 44, [])]), (63, [(44, .iconst 1, 45, [1]), (45, .iadd, 46, []), (46, .ireturn, 47, []), (47, .iload_n 0, 48, []), (48, .bipush 19, 50, [19]), (50, .if_icmp .le 7, 53, [57]), (53, .iconst (-1), 54, [1, 1]), (54, .goto 6, 57, [60]), (57, .iload_n 0, 58, []), (58, .iconst 5, 59, [5]), (59, .iadd, 60, []), (60, .ireturn, 61, []), (61, .iload_n 0, 62, []), (62, .iconst 5, 63, [5])]), (75, [(63, .irem, 64, []), (64, .ifCond .ne 7, 67, [71]), (67, .iconst (-1), 68, [1, 1]), (68, .goto 6, 71, [74]), (71, .iload_n 0, 72, []), (72, .iconst 1, 73, [1]), (73, .isub, 74, []), (74, .ireturn, 75, [])])]
theorem pk_X5_beside : pgk cX5_beside P_X5_beside := by unfold pgk pk; decide +kernel
def P_X5_doorAt : PG := [(43, [(0, .iload_n 1, 1, []), (1, .tableswitch 44 0 2 #[27, 34, 39], 28, [45, 28, 35, 40]), (28, .bipush 119, 30, [119]), (30, .iload_n 0, 31, []), (31, .iadd, 32, []), (32, .iconst 5, 33, [5]), (33, .isub, 34, []), (34, .ireturn, 35, []), (35, .bipush 94, 37, [94]), (37, .iload_n 0, 38, []), (38, .iadd, 39, []), (39, .ireturn, 40, []), (40, .bipush 119, 42, [119]), (42, .iload_n 0, 43, [])]), (52, [(43, .iadd, 44, []), (44, .ireturn, 45, []), (45, .bipush 94, 47, [94]), (47, .iload_n 0, 48, []), (48, .iadd, 49, []), (49, .iconst 1, 50, [1]), (50, .isub, 51, []), (51, .ireturn, 52, [])])]
theorem pk_X5_doorAt : pgk cX5_doorAt P_X5_doorAt := by unfold pgk pk; decide +kernel
def P_X5_wayTo : PG := [(23, [(0, .iconst 3, 1, [3]), (1, .istore_n 2, 2, []), (2, .iload_n 2, 3, []), (3, .ifCond .lt 18, 6, [21]), (6, .iload_n 0, 7, []), (7, .iload_n 2, 8, []), (8, .invokestatic 63, 11, []), (11, .iload_n 1, 12, []), (12, .if_icmp .eq 9, 15, [21]), (15, .iinc 2 (-1), 18, [1, 1]), (18, .goto (-16), 21, [2]), (21, .iload_n 2, 22, []), (22, .ireturn, 23, [])])]
theorem pk_X5_wayTo : pgk cX5_wayTo P_X5_wayTo := by unfold pgk pk; decide +kernel
def P_X5_may : PG := [(26, [(0, .iload_n 1, 1, []), (1, .iload_n 2, 2, []), (2, .invokestatic 63, 5, []), (5, .ifCond .lt 20, 8, [25]), (8, .aload_n 0, 9, []), (9, .getfield 9, 12, []), (12, .iload_n 1, 13, []), (13, .iload_n 2, 14, []), (14, .invokestatic 66, 17, []), (17, .iaload, 18, []), (18, .ifCond .ne 7, 21, [25]), (21, .iconst 1, 22, [1]), (22, .goto 4, 25, [26]), (25, .iconst 0, 26, [0])]), (27, [(26, .ireturn, 27, [])])]
theorem pk_X5_may : pgk cX5_may P_X5_may := by unfold pgk pk; decide +kernel
def P_X5_doorOf : PG := [(28, [(0, .iload_n 1, 1, []), (1, .invokestatic 69, 4, []), (4, .ifCond .eq 18, 7, [22]), (7, .iload_n 2, 8, []), (8, .invokestatic 69, 11, []), (11, .ifCond .eq 11, 14, [22]), (14, .iload_n 1, 15, []), (15, .iload_n 2, 16, []), (16, .invokestatic 73, 19, []), (19, .goto 4, 22, [23]), (22, .iconst (-1), 23, [1, 1]), (23, .istore_n 3, 24, []), (24, .iload_n 3, 25, []), (25, .ifCond .ge 7, 28, [32])]), (38, [(28, .iconst (-1), 29, [1, 1]), (29, .goto 8, 32, [37]), (32, .iload_n 1, 33, []), (33, .iload_n 3, 34, []), (34, .invokestatic 66, 37, []), (37, .ireturn, 38, [])])]
theorem pk_X5_doorOf : pgk cX5_doorOf P_X5_doorOf := by unfold pgk pk; decide +kernel
def P_X5_door : PG := [(24, [(0, .aload_n 0, 1, []), (1, .iload_n 1, 2, []), (2, .iload_n 2, 3, []), (3, .invokevirtual 76, 6, []), (6, .istore 4, 8, []), (8, .iload 4, 10, []), (10, .ifCond .ge 9, 13, [19]), (13, .aload_n 0, 14, []), (14, .iconst 0, 15, [0]), (15, .invokevirtual 79, 18, []), (18, .ireturn, 19, []), (19, .iload_n 3, 20, []), (20, .ifCond .eq 7, 23, [27]), (23, .iconst 0, 24, [0])]), (49, [(24, .goto 4, 27, [28]), (27, .iconst 1, 28, [1]), (28, .istore 5, 30, []), (30, .aload_n 0, 31, []), (31, .iload 4, 33, []), (33, .iload 5, 35, []), (35, .invokevirtual 83, 38, []), (38, .iload 5, 40, []), (40, .if_icmp .ne 7, 43, [47]), (43, .iconst 0, 44, [0]), (44, .goto 4, 47, [48]), (47, .iconst 1, 48, [1]), (48, .ireturn, 49, [])])]
theorem pk_X5_door : pgk cX5_door P_X5_door := by unfold pgk pk; decide +kernel
def P_X5_isOpen : PG := [(24, [(0, .aload_n 0, 1, []), (1, .iload_n 1, 2, []), (2, .iload_n 2, 3, []), (3, .invokevirtual 76, 6, []), (6, .istore_n 3, 7, []), (7, .iload_n 3, 8, []), (8, .ifCond .ge 11, 11, [19]), (11, .aload_n 0, 12, []), (12, .iconst 0, 13, [0]), (13, .invokevirtual 79, 16, []), (16, .goto 11, 19, [27]), (19, .iconst 1, 20, [1]), (20, .aload_n 0, 21, []), (21, .getfield 9, 24, [])]), (28, [(24, .iload_n 3, 25, []), (25, .iaload, 26, []), (26, .isub, 27, []), (27, .ireturn, 28, [])])]
theorem pk_X5_isOpen : pgk cX5_isOpen P_X5_isOpen := by unfold pgk pk; decide +kernel
def P_X5_height : PG := [(26, [(0, .iload_n 1, 1, []), (1, .invokestatic 69, 4, []), (4, .ifCond .eq 25, 7, [29]), (7, .iload_n 2, 8, []), (8, .iconst 0, 9, [0]), (9, .bipush 9, 11, [9]), (11, .invokestatic 55, 14, []), (14, .ifCond .eq 15, 17, [29]), (17, .aload_n 0, 18, []), (18, .bipush 19, 20, [19]), (20, .iload_n 1, 21, []), (21, .iadd, 22, []), (22, .iload_n 2, 23, []), (23, .invokevirtual 83, 26, [])]), (35, [(26, .goto 8, 29, [34]), (29, .aload_n 0, 30, []), (30, .iconst 0, 31, [0]), (31, .invokevirtual 79, 34, []), (34, .ireturn, 35, [])])]
theorem pk_X5_height : pgk cX5_height P_X5_height := by unfold pgk pk; decide +kernel
def P_X5_mark : PG := [(26, [(0, .iload_n 1, 1, []), (1, .invokestatic 69, 4, []), (4, .ifCond .eq 12, 7, [16]), (7, .iload_n 2, 8, []), (8, .iconst 0, 9, [0]), (9, .iconst 1, 10, [1]), (10, .invokestatic 55, 13, []), (13, .ifCond .ne 9, 16, [22]), (16, .aload_n 0, 17, []), (17, .iconst 0, 18, [0]), (18, .invokevirtual 79, 21, []), (21, .ireturn, 22, []), (22, .iload_n 3, 23, []), (23, .ifCond .eq 7, 26, [30])]), (52, [(26, .iconst 1, 27, [1]), (27, .goto 4, 30, [31]), (30, .iconst 0, 31, [0]), (31, .istore 4, 33, []), (33, .aload_n 0, 34, []), (34, .iload_n 2, 35, []), (35, .ifCond .ne 8, 38, [43]), (38, .bipush 44, 40, [44]), (40, .goto 5, 43, [45]), (43, .bipush 69, 45, [69]), (45, .iload_n 1, 46, []), (46, .iadd, 47, []), (47, .iload 4, 49, []), (49, .invokevirtual 83, 52, [])]), (63, [(52, .iload 4, 54, []), (54, .if_icmp .ne 7, 57, [61]), (57, .iconst 0, 58, [0]), (58, .goto 4, 61, [62]), (61, .iconst 1, 62, [1]), (62, .ireturn, 63, [])])]
theorem pk_X5_mark : pgk cX5_mark P_X5_mark := by unfold pgk pk; decide +kernel
def P_X5_walkersAt : PG := [(19, [(0, .iconst 0, 1, [0]), (1, .istore_n 2, 2, []), (2, .iconst 0, 3, [0]), (3, .istore_n 3, 4, []), (4, .iload_n 3, 5, []), (5, .aload_n 0, 6, []), (6, .getfield 9, 9, []), (9, .bipush 6, 11, [6]), (11, .iaload, 12, []), (12, .if_icmp .ge 29, 15, [41]), (15, .iload_n 2, 16, []), (16, .aload_n 0, 17, []), (17, .iload_n 3, 18, []), (18, .iconst 2, 19, [2])]), (43, [(19, .invokevirtual 59, 22, []), (22, .iload_n 1, 23, []), (23, .if_icmp .ne 9, 26, [32]), (26, .iconst 1, 27, [1]), (27, .iload_n 3, 28, []), (28, .ishl, 29, []), (29, .goto 4, 32, [33]), (32, .iconst 0, 33, [0]), (33, .ior, 34, []), (34, .istore_n 2, 35, []), (35, .iinc 3 1, 38, [1]), (38, .goto (-34), 41, [4]), (41, .iload_n 2, 42, []), (42, .ireturn, 43, [])])]
theorem pk_X5_walkersAt : pgk cX5_walkersAt P_X5_walkersAt := by unfold pgk pk; decide +kernel
def P_X5_squareOf : PG := [(26, [(0, .iload_n 1, 1, []), (1, .invokestatic 69, 4, []), (4, .ifCond .eq 12, 7, [16]), (7, .iload_n 2, 8, []), (8, .iconst 0, 9, [0]), (9, .iconst 3, 10, [3]), (10, .invokestatic 55, 13, []), (13, .ifCond .ne 9, 16, [22]), (16, .aload_n 0, 17, []), (17, .iconst 0, 18, [0]), (18, .invokevirtual 79, 21, []), (21, .ireturn, 22, []), (22, .iload_n 2, 23, []), (23, .ifCond .ne 15, 26, [38])]), (50, [(26, .aload_n 0, 27, []), (27, .getfield 9, 30, []), (30, .bipush 19, 32, [19]), (32, .iload_n 1, 33, []), (33, .iadd, 34, []), (34, .iaload, 35, []), (35, .goto 42, 38, [77]), (38, .iload_n 2, 39, []), (39, .iconst 1, 40, [1]), (40, .if_icmp .ne 15, 43, [55]), (43, .aload_n 0, 44, []), (44, .getfield 9, 47, []), (47, .bipush 44, 49, [44]), (49, .iload_n 1, 50, [])]), (73, [(50, .iadd, 51, []), (51, .iaload, 52, []), (52, .goto 25, 55, [77]), (55, .iload_n 2, 56, []), (56, .iconst 2, 57, [2]), (57, .if_icmp .ne 15, 60, [72]), (60, .aload_n 0, 61, []), (61, .getfield 9, 64, []), (64, .bipush 69, 66, [69]), (66, .iload_n 1, 67, []), (67, .iadd, 68, []), (68, .iaload, 69, []), (69, .goto 8, 72, [77]), (72, .aload_n 0, 73, [])]), (78, [(73, .iload_n 1, 74, []), (74, .invokevirtual 86, 77, []), (77, .ireturn, 78, [])])]
theorem pk_X5_squareOf : pgk cX5_squareOf P_X5_squareOf := by unfold pgk pk; decide +kernel
def P_X5_moon : PG := [(24, [(0, .iload_n 1, 1, []), (1, .iconst 0, 2, [0]), (2, .iconst 4, 3, [4]), (3, .invokestatic 55, 6, []), (6, .ifCond .eq 12, 9, [18]), (9, .aload_n 0, 10, []), (10, .iconst 2, 11, [2]), (11, .iload_n 1, 12, []), (12, .invokevirtual 83, 15, []), (15, .goto 8, 18, [23]), (18, .aload_n 0, 19, []), (19, .iconst 0, 20, [0]), (20, .invokevirtual 79, 23, []), (23, .ireturn, 24, [])])]
theorem pk_X5_moon : pgk cX5_moon P_X5_moon := by unfold pgk pk; decide +kernel
def P_X5_round : PG := [(25, [(0, .iload_n 1, 1, []), (1, .invokestatic 69, 4, []), (4, .ifCond .ne 9, 7, [13]), (7, .aload_n 0, 8, []), (8, .iconst 0, 9, [0]), (9, .invokevirtual 79, 12, []), (12, .ireturn, 13, []), (13, .aload_n 0, 14, []), (14, .getfield 9, 17, []), (17, .iconst 5, 18, [5]), (18, .iaload, 19, []), (19, .bipush 12, 21, [12]), (21, .if_icmp .ne 9, 24, [30]), (24, .aload_n 0, 25, [])]), (46, [(25, .iconst 1, 26, [1]), (26, .invokevirtual 79, 29, []), (29, .ireturn, 30, []), (30, .aload_n 0, 31, []), (31, .getfield 9, 34, []), (34, .bipush 7, 36, [7]), (36, .aload_n 0, 37, []), (37, .getfield 9, 40, []), (40, .iconst 5, 41, [5]), (41, .iaload, 42, []), (42, .iadd, 43, []), (43, .iload_n 1, 44, []), (44, .iastore, 45, []), (45, .aload_n 0, 46, [])]), (62, [(46, .getfield 9, 49, []), (49, .iconst 5, 50, [5]), (50, .dup2, 51, []), (51, .iaload, 52, []), (52, .iconst 1, 53, [1]), (53, .iadd, 54, []), (54, .iastore, 55, []), (55, .aload_n 0, 56, []), (56, .getfield 9, 59, []), (59, .iconst 5, 60, [5]), (60, .iaload, 61, []), (61, .ireturn, 62, [])])]
theorem pk_X5_round : pgk cX5_round P_X5_round := by unfold pgk pk; decide +kernel
def P_X5_rest : PG := [(14, [(0, .aload_n 0, 1, []), (1, .getfield 9, 4, []), (4, .iconst 4, 5, [4]), (5, .iconst (-1), 6, [1, 1]), (6, .iastore, 7, []), (7, .aload_n 0, 8, []), (8, .iconst 5, 9, [5]), (9, .iconst 0, 10, [0]), (10, .invokevirtual 83, 13, []), (13, .ireturn, 14, [])])]
theorem pk_X5_rest : pgk cX5_rest P_X5_rest := by unfold pgk pk; decide +kernel
def P_X5_isKind : PG := [(7, [(0, .iload_n 0, 1, []), (1, .iconst 0, 2, [0]), (2, .iconst 5, 3, [5]), (3, .invokestatic 55, 6, []), (6, .ireturn, 7, [])])]
theorem pk_X5_isKind : pgk cX5_isKind P_X5_isKind := by unfold pgk pk; decide +kernel
def P_X5_adds : PG := [(21, [(0, .aload_n 0, 1, []), (1, .getfield 9, 4, []), (4, .bipush 6, 6, [6]), (6, .iaload, 7, []), (7, .istore 4, 9, []), (9, .aload_n 0, 10, []), (10, .getfield 9, 13, []), (13, .bipush 6, 15, [6]), (15, .dup2, 16, []), (16, .iaload, 17, []), (17, .iconst 1, 18, [1]), (18, .iadd, 19, []), (19, .iastore, 20, []), (20, .aload_n 0, 21, [])]), (42, [(21, .iload 4, 23, []), (23, .iconst 0, 24, [0]), (24, .iload_n 1, 25, []), (25, .invokevirtual 89, 28, []), (28, .pop, 29, []), (29, .aload_n 0, 30, []), (30, .iload 4, 32, []), (32, .iconst 1, 33, [1]), (33, .iload_n 2, 34, []), (34, .invokevirtual 89, 37, []), (37, .pop, 38, []), (38, .aload_n 0, 39, []), (39, .iload 4, 41, []), (41, .iconst 2, 42, [2])]), (64, [(42, .iload_n 2, 43, []), (43, .invokevirtual 89, 46, []), (46, .pop, 47, []), (47, .aload_n 0, 48, []), (48, .iload 4, 50, []), (50, .iconst 3, 51, [3]), (51, .iload_n 3, 52, []), (52, .invokevirtual 89, 55, []), (55, .pop, 56, []), (56, .aload_n 0, 57, []), (57, .iload 4, 59, []), (59, .iconst 4, 60, [4]), (60, .iconst 0, 61, [0]), (61, .invokevirtual 89, 64, [])]), (66, [(64, .pop, 65, []), (65, .return_, 66, [])])]
theorem pk_X5_adds : pgk cX5_adds P_X5_adds := by unfold pgk pk; decide +kernel
def P_X5_walker : PG := [(28, [(0, .iload_n 1, 1, []), (1, .invokestatic 93, 4, []), (4, .ifCond .eq 17, 7, [21]), (7, .iload_n 2, 8, []), (8, .invokestatic 69, 11, []), (11, .ifCond .eq 10, 14, [21]), (14, .iload_n 3, 15, []), (15, .invokestatic 96, 18, []), (18, .ifCond .ne 9, 21, [27]), (21, .aload_n 0, 22, []), (22, .iconst 0, 23, [0]), (23, .invokevirtual 79, 26, []), (26, .ireturn, 27, []), (27, .aload_n 0, 28, [])]), (52, [(28, .getfield 9, 31, []), (31, .bipush 6, 33, [6]), (33, .iaload, 34, []), (34, .bipush 8, 36, [8]), (36, .if_icmp .ne 9, 39, [45]), (39, .aload_n 0, 40, []), (40, .iconst 1, 41, [1]), (41, .invokevirtual 79, 44, []), (44, .ireturn, 45, []), (45, .aload_n 0, 46, []), (46, .iload_n 1, 47, []), (47, .iload_n 2, 48, []), (48, .iload_n 3, 49, []), (49, .invokevirtual 99, 52, [])]), (62, [(52, .aload_n 0, 53, []), (53, .getfield 9, 56, []), (56, .bipush 6, 58, [6]), (58, .iaload, 59, []), (59, .iconst 1, 60, [1]), (60, .isub, 61, []), (61, .ireturn, 62, [])])]
theorem pk_X5_walker : pgk cX5_walker P_X5_walker := by unfold pgk pk; decide +kernel
def P_X5_waysFrom : PG := [(20, [(0, .iconst 0, 1, [0]), (1, .istore_n 2, 2, []), (2, .iconst 0, 3, [0]), (3, .istore_n 3, 4, []), (4, .iload_n 3, 5, []), (5, .iconst 4, 6, [4]), (6, .if_icmp .ge 28, 9, [34]), (9, .iload_n 2, 10, []), (10, .aload_n 0, 11, []), (11, .iload_n 1, 12, []), (12, .iload_n 3, 13, []), (13, .invokevirtual 103, 16, []), (16, .ifCond .eq 9, 19, [25]), (19, .iconst 1, 20, [1])]), (36, [(20, .iload_n 3, 21, []), (21, .ishl, 22, []), (22, .goto 4, 25, [26]), (25, .iconst 0, 26, [0]), (26, .ior, 27, []), (27, .istore_n 2, 28, []), (28, .iinc 3 1, 31, [1]), (31, .goto (-27), 34, [4]), (34, .iload_n 2, 35, []), (35, .ireturn, 36, [])])]
theorem pk_X5_waysFrom : pgk cX5_waysFrom P_X5_waysFrom := by unfold pgk pk; decide +kernel
def P_X5_of : PG := [(24, [(0, .aload_n 0, 1, []), (1, .iload_n 1, 2, []), (2, .invokevirtual 107, 5, []), (5, .ifCond .eq 12, 8, [17]), (8, .iload_n 2, 9, []), (9, .iconst 0, 10, [0]), (10, .iconst 5, 11, [5]), (11, .invokestatic 55, 14, []), (14, .ifCond .ne 9, 17, [23]), (17, .aload_n 0, 18, []), (18, .iconst 0, 19, [0]), (19, .invokevirtual 79, 22, []), (22, .ireturn, 23, []), (23, .iload_n 2, 24, [])]), (48, [(24, .iconst 5, 25, [5]), (25, .if_icmp .ne 16, 28, [41]), (28, .aload_n 0, 29, []), (29, .aload_n 0, 30, []), (30, .iload_n 1, 31, []), (31, .iconst 2, 32, [2]), (32, .invokevirtual 59, 35, []), (35, .invokevirtual 110, 38, []), (38, .goto 9, 41, [47]), (41, .aload_n 0, 42, []), (42, .iload_n 1, 43, []), (43, .iload_n 2, 44, []), (44, .invokevirtual 59, 47, []), (47, .ireturn, 48, [])])]
theorem pk_X5_of : pgk cX5_of P_X5_of := by unfold pgk pk; decide +kernel
def P_X5_set : PG := [(26, [(0, .aload_n 0, 1, []), (1, .iload_n 1, 2, []), (2, .invokevirtual 107, 5, []), (5, .ifCond .eq 34, 8, [39]), (8, .iload_n 2, 9, []), (9, .iconst 1, 10, [1]), (10, .iconst 3, 11, [3]), (11, .invokestatic 55, 14, []), (14, .ifCond .eq 25, 17, [39]), (17, .iload_n 2, 18, []), (18, .iconst 3, 19, [3]), (19, .if_icmp .ne 13, 22, [32]), (22, .iload_n 3, 23, []), (23, .invokestatic 96, 26, [])]), (52, [(26, .ifCond .eq 13, 29, [39]), (29, .goto 16, 32, [45]), (32, .iload_n 3, 33, []), (33, .invokestatic 69, 36, []), (36, .ifCond .ne 9, 39, [45]), (39, .aload_n 0, 40, []), (40, .iconst 0, 41, [0]), (41, .invokevirtual 79, 44, []), (44, .ireturn, 45, []), (45, .aload_n 0, 46, []), (46, .iload_n 1, 47, []), (47, .iload_n 2, 48, []), (48, .iload_n 3, 49, []), (49, .invokevirtual 89, 52, [])]), (53, [(52, .ireturn, 53, [])])]
theorem pk_X5_set : pgk cX5_set P_X5_set := by unfold pgk pk; decide +kernel
def P_X5_wake : PG := [(24, [(0, .aload_n 0, 1, []), (1, .iload_n 1, 2, []), (2, .invokevirtual 107, 5, []), (5, .ifCond .ne 9, 8, [14]), (8, .aload_n 0, 9, []), (9, .iconst 0, 10, [0]), (10, .invokevirtual 79, 13, []), (13, .ireturn, 14, []), (14, .iload_n 2, 15, []), (15, .ifCond .eq 7, 18, [22]), (18, .iconst 1, 19, [1]), (19, .goto 4, 22, [23]), (22, .iconst 0, 23, [0]), (23, .istore_n 3, 24, [])]), (41, [(24, .aload_n 0, 25, []), (25, .iload_n 1, 26, []), (26, .iconst 4, 27, [4]), (27, .iload_n 3, 28, []), (28, .invokevirtual 89, 31, []), (31, .iload_n 3, 32, []), (32, .if_icmp .ne 7, 35, [39]), (35, .iconst 0, 36, [0]), (36, .goto 4, 39, [40]), (39, .iconst 1, 40, [1]), (40, .ireturn, 41, [])])]
theorem pk_X5_wake : pgk cX5_wake P_X5_wake := by unfold pgk pk; decide +kernel
def P_X5_turn : PG := [(26, [(0, .aload_n 0, 1, []), (1, .iload_n 1, 2, []), (2, .invokevirtual 107, 5, []), (5, .ifCond .eq 20, 8, [25]), (8, .iload_n 2, 9, []), (9, .invokestatic 93, 12, []), (12, .ifCond .eq 13, 15, [25]), (15, .aload_n 0, 16, []), (16, .iload_n 1, 17, []), (17, .iconst 0, 18, [0]), (18, .iload_n 2, 19, []), (19, .invokevirtual 89, 22, []), (22, .goto 8, 25, [30]), (25, .aload_n 0, 26, [])]), (31, [(26, .iconst 0, 27, [0]), (27, .invokevirtual 79, 30, []), (30, .ireturn, 31, [])])]
theorem pk_X5_turn : pgk cX5_turn P_X5_turn := by unfold pgk pk; decide +kernel
def P_X5_isUnder : PG := [(46, [(0, .iload_n 1, 1, []), (1, .tableswitch 61 0 2 #[27, 29, 45], 28, [62, 28, 30, 46]), (28, .iconst 1, 29, [1]), (29, .ireturn, 30, []), (30, .iload_n 0, 31, []), (31, .iconst 1, 32, [1]), (32, .if_icmp .eq 8, 35, [40]), (35, .iload_n 0, 36, []), (36, .iconst 3, 37, [3]), (37, .if_icmp .ne 7, 40, [44]), (40, .iconst 1, 41, [1]), (41, .goto 4, 44, [45]), (44, .iconst 0, 45, [0]), (45, .ireturn, 46, [])]), (68, [(46, .iload_n 0, 47, []), (47, .iconst 2, 48, [2]), (48, .if_icmp .eq 8, 51, [56]), (51, .iload_n 0, 52, []), (52, .iconst 5, 53, [5]), (53, .if_icmp .ne 7, 56, [60]), (56, .iconst 1, 57, [1]), (57, .goto 4, 60, [61]), (60, .iconst 0, 61, [0]), (61, .ireturn, 62, []), (62, .iload_n 0, 63, []), (63, .iload_n 1, 64, []), (64, .if_icmp .ne 7, 67, [71]), (67, .iconst 1, 68, [1])]), (73, [(68, .goto 4, 71, [72]), (71, .iconst 0, 72, [0]), (72, .ireturn, 73, [])])]
theorem pk_X5_isUnder : pgk cX5_isUnder P_X5_isUnder := by unfold pgk pk; decide +kernel
def P_X5_as : PG := [(24, [(0, .aload_n 0, 1, []), (1, .iload_n 1, 2, []), (2, .invokevirtual 107, 5, []), (5, .ifCond .eq 10, 8, [15]), (8, .iload_n 2, 9, []), (9, .invokestatic 93, 12, []), (12, .ifCond .ne 9, 15, [21]), (15, .aload_n 0, 16, []), (16, .iconst 0, 17, [0]), (17, .invokevirtual 79, 20, []), (20, .ireturn, 21, []), (21, .aload_n 0, 22, []), (22, .iload_n 1, 23, []), (23, .iconst 0, 24, [0])]), (49, [(24, .invokevirtual 59, 27, []), (27, .iload_n 2, 28, []), (28, .invokestatic 113, 31, []), (31, .ifCond .eq 12, 34, [43]), (34, .aload_n 0, 35, []), (35, .iload_n 1, 36, []), (36, .iconst 2, 37, [2]), (37, .invokevirtual 59, 40, []), (40, .goto 8, 43, [48]), (43, .aload_n 0, 44, []), (44, .iconst 2, 45, [2]), (45, .invokevirtual 79, 48, []), (48, .ireturn, 49, [])])]
theorem pk_X5_as : pgk cX5_as P_X5_as := by unfold pgk pk; decide +kernel
def P_X5_turned : PG := [(21, [(0, .iconst 0, 1, [0]), (1, .istore 4, 3, []), (3, .iload 4, 5, []), (5, .iconst 4, 6, [4]), (6, .if_icmp .ge 52, 9, [58]), (9, .iload_n 2, 10, []), (10, .iload 4, 12, []), (12, .iadd, 13, []), (13, .iconst 4, 14, [4]), (14, .irem, 15, []), (15, .istore 5, 17, []), (17, .aload_n 0, 18, []), (18, .iload_n 1, 19, []), (19, .iload 5, 21, [])]), (49, [(21, .invokevirtual 103, 24, []), (24, .ifCond .eq 28, 27, [52]), (27, .iload_n 3, 28, []), (28, .ifCond .eq 21, 31, [49]), (31, .aload_n 0, 32, []), (32, .getfield 9, 35, []), (35, .bipush 44, 37, [44]), (37, .iload_n 1, 38, []), (38, .iload 5, 40, []), (40, .invokestatic 63, 43, []), (43, .iadd, 44, []), (44, .iaload, 45, []), (45, .iconst 1, 46, [1]), (46, .if_icmp .ne 6, 49, [52])]), (60, [(49, .iload 5, 51, []), (51, .ireturn, 52, []), (52, .iinc 4 1, 55, [1]), (55, .goto (-52), 58, [3]), (58, .iconst (-1), 59, [1, 1]), (59, .ireturn, 60, [])])]
theorem pk_X5_turned : pgk cX5_turned P_X5_turned := by unfold pgk pk; decide +kernel
def P_X5_lampStep : PG := [(22, [(0, .aload_n 0, 1, []), (1, .iload_n 1, 2, []), (2, .iload_n 2, 3, []), (3, .iconst 1, 4, [1]), (4, .invokevirtual 116, 7, []), (7, .istore_n 3, 8, []), (8, .iload_n 3, 9, []), (9, .ifCond .ge 13, 12, [22]), (12, .aload_n 0, 13, []), (13, .iload_n 1, 14, []), (14, .iload_n 2, 15, []), (15, .iconst 0, 16, [0]), (16, .invokevirtual 116, 19, []), (19, .goto 4, 22, [23])]), (24, [(22, .iload_n 3, 23, []), (23, .ireturn, 24, [])])]
theorem pk_X5_lampStep : pgk cX5_lampStep P_X5_lampStep := by unfold pgk pk; decide +kernel
def P_X5_slopeStep : PG := [(22, [(0, .iconst (-1), 1, [1, 1]), (1, .istore_n 3, 2, []), (2, .aload_n 0, 3, []), (3, .getfield 9, 6, []), (6, .bipush 19, 8, [19]), (8, .iload_n 1, 9, []), (9, .iadd, 10, []), (10, .iaload, 11, []), (11, .istore 4, 13, []), (13, .iconst 0, 14, [0]), (14, .istore 5, 16, []), (16, .iload 5, 18, []), (18, .iconst 4, 19, [4]), (19, .if_icmp .ge 57, 22, [76])]), (48, [(22, .aload_n 0, 23, []), (23, .iload_n 1, 24, []), (24, .iload 5, 26, []), (26, .invokevirtual 103, 29, []), (29, .ifCond .eq 41, 32, [70]), (32, .aload_n 0, 33, []), (33, .getfield 9, 36, []), (36, .bipush 19, 38, [19]), (38, .iload_n 1, 39, []), (39, .iload 5, 41, []), (41, .invokestatic 63, 44, []), (44, .iadd, 45, []), (45, .iaload, 46, []), (46, .iload 4, 48, [])]), (76, [(48, .if_icmp .ge 22, 51, [70]), (51, .iload 5, 53, []), (53, .istore_n 3, 54, []), (54, .aload_n 0, 55, []), (55, .getfield 9, 58, []), (58, .bipush 19, 60, [19]), (60, .iload_n 1, 61, []), (61, .iload 5, 63, []), (63, .invokestatic 63, 66, []), (66, .iadd, 67, []), (67, .iaload, 68, []), (68, .istore 4, 70, []), (70, .iinc 5 1, 73, [1]), (73, .goto (-57), 76, [16])]), (92, [(76, .iload_n 3, 77, []), (77, .ifCond .ge 13, 80, [90]), (80, .aload_n 0, 81, []), (81, .iload_n 1, 82, []), (82, .iload_n 2, 83, []), (83, .iconst 0, 84, [0]), (84, .invokevirtual 116, 87, []), (87, .goto 4, 90, [91]), (90, .iload_n 3, 91, []), (91, .ireturn, 92, [])])]
theorem pk_X5_slopeStep : pgk cX5_slopeStep P_X5_slopeStep := by unfold pgk pk; decide +kernel
def P_X5_ones : PG := [(17, [(0, .iconst 0, 1, [0]), (1, .istore_n 1, 2, []), (2, .iconst 0, 3, [0]), (3, .istore_n 2, 4, []), (4, .iload_n 2, 5, []), (5, .bipush 12, 7, [12]), (7, .if_icmp .ge 17, 10, [24]), (10, .iload_n 1, 11, []), (11, .iload_n 0, 12, []), (12, .iload_n 2, 13, []), (13, .ishr, 14, []), (14, .iconst 1, 15, [1]), (15, .iand, 16, []), (16, .iadd, 17, [])]), (26, [(17, .istore_n 1, 18, []), (18, .iinc 2 1, 21, [1]), (21, .goto (-17), 24, [4]), (24, .iload_n 1, 25, []), (25, .ireturn, 26, [])])]
theorem pk_X5_ones : pgk cX5_ones P_X5_ones := by unfold pgk pk; decide +kernel
def P_X5_wanderStep : PG := [(22, [(0, .aload_n 0, 1, []), (1, .iload_n 1, 2, []), (2, .invokevirtual 110, 5, []), (5, .istore_n 2, 6, []), (6, .iload_n 2, 7, []), (7, .ifCond .ne 5, 10, [12]), (10, .iconst (-1), 11, [1, 1]), (11, .ireturn, 12, []), (12, .aload_n 0, 13, []), (13, .invokevirtual 120, 16, []), (16, .iload_n 2, 17, []), (17, .invokestatic 124, 20, []), (20, .irem, 21, []), (21, .istore_n 3, 22, [])]), (43, [(22, .iconst 0, 23, [0]), (23, .istore 4, 25, []), (25, .iload_n 2, 26, []), (26, .iload 4, 28, []), (28, .ishr, 29, []), (29, .iconst 1, 30, [1]), (30, .iand, 31, []), (31, .ifCond .eq 7, 34, [38]), (34, .iload_n 3, 35, []), (35, .ifCond .le 18, 38, [53]), (38, .iload_n 3, 39, []), (39, .iload_n 2, 40, []), (40, .iload 4, 42, []), (42, .ishr, 43, [])]), (56, [(43, .iconst 1, 44, [1]), (44, .iand, 45, []), (45, .isub, 46, []), (46, .istore_n 3, 47, []), (47, .iinc 4 1, 50, [1]), (50, .goto (-25), 53, [25]), (53, .iload 4, 55, []), (55, .ireturn, 56, [])])]
theorem pk_X5_wanderStep : pgk cX5_wanderStep P_X5_wanderStep := by unfold pgk pk; decide +kernel
def P_X5_stepOf : PG := [(20, [(0, .aload_n 0, 1, []), (1, .iload_n 1, 2, []), (2, .iconst 2, 3, [2]), (3, .invokevirtual 59, 6, []), (6, .istore_n 2, 7, []), (7, .aload_n 0, 8, []), (8, .iload_n 1, 9, []), (9, .iconst 3, 10, [3]), (10, .invokevirtual 59, 13, []), (13, .istore_n 3, 14, []), (14, .aload_n 0, 15, []), (15, .iload_n 1, 16, []), (16, .iconst 0, 17, [0]), (17, .invokevirtual 59, 20, [])]), (73, [(20, .tableswitch 94 0 4 #[36, 44, 51, 58, 88], 56, [114, 56, 64, 71, 78, 108]), (56, .aload_n 0, 57, []), (57, .iload_n 2, 58, []), (58, .iload_n 3, 59, []), (59, .iconst 0, 60, [0]), (60, .invokevirtual 116, 63, []), (63, .ireturn, 64, []), (64, .aload_n 0, 65, []), (65, .iload_n 2, 66, []), (66, .iload_n 3, 67, []), (67, .invokevirtual 127, 70, []), (70, .ireturn, 71, []), (71, .aload_n 0, 72, []), (72, .iload_n 2, 73, [])]), (97, [(73, .iload_n 3, 74, []), (74, .invokevirtual 130, 77, []), (77, .ireturn, 78, []), (78, .iload_n 2, 79, []), (79, .aload_n 0, 80, []), (80, .iload_n 1, 81, []), (81, .iconst 1, 82, [1]), (82, .invokevirtual 59, 85, []), (85, .if_icmp .ne 16, 88, [101]), (88, .aload_n 0, 89, []), (89, .getfield 9, 92, []), (92, .iconst 0, 93, [0]), (93, .iaload, 94, []), (94, .ifCond .eq 7, 97, [101])]), (119, [(97, .iconst (-1), 98, [1, 1]), (98, .goto 9, 101, [107]), (101, .aload_n 0, 102, []), (102, .iload_n 2, 103, []), (103, .iload_n 3, 104, []), (104, .invokevirtual 127, 107, []), (107, .ireturn, 108, []), (108, .aload_n 0, 109, []), (109, .iload_n 2, 110, []), (110, .invokevirtual 133, 113, []), (113, .ireturn, 114, []), (114, .aload_n 0, 115, []), (115, .getfield 9, 118, []), (118, .iconst 2, 119, [2])]), (142, [(119, .iaload, 120, []), (120, .iconst 4, 121, [4]), (121, .if_icmp .ne 12, 124, [133]), (124, .aload_n 0, 125, []), (125, .iload_n 2, 126, []), (126, .iload_n 3, 127, []), (127, .invokevirtual 130, 130, []), (130, .goto 32, 133, [162]), (133, .aload_n 0, 134, []), (134, .getfield 9, 137, []), (137, .iconst 0, 138, [0]), (138, .iaload, 139, []), (139, .bipush 60, 141, [60]), (141, .aload_n 0, 142, [])]), (163, [(142, .getfield 9, 145, []), (145, .iconst 2, 146, [2]), (146, .iaload, 147, []), (147, .imul, 148, []), (148, .if_icmp .ge 13, 151, [161]), (151, .aload_n 0, 152, []), (152, .iload_n 2, 153, []), (153, .iload_n 3, 154, []), (154, .iconst 0, 155, [0]), (155, .invokevirtual 116, 158, []), (158, .goto 4, 161, [162]), (161, .iconst (-1), 162, [1, 1]), (162, .ireturn, 163, [])])]
theorem pk_X5_stepOf : pgk cX5_stepOf P_X5_stepOf := by unfold pgk pk; decide +kernel
def P_X5_step : PG := [(22, [(0, .aload_n 0, 1, []), (1, .iload_n 1, 2, []), (2, .invokevirtual 107, 5, []), (5, .ifCond .ne 9, 8, [14]), (8, .aload_n 0, 9, []), (9, .iconst 0, 10, [0]), (10, .invokevirtual 79, 13, []), (13, .ireturn, 14, []), (14, .aload_n 0, 15, []), (15, .getfield 9, 18, []), (18, .iconst 1, 19, [1]), (19, .iaload, 20, []), (20, .istore_n 2, 21, []), (21, .aload_n 0, 22, [])]), (36, [(22, .iload_n 1, 23, []), (23, .invokevirtual 136, 26, []), (26, .istore_n 3, 27, []), (27, .aload_n 0, 28, []), (28, .getfield 9, 31, []), (31, .iconst 1, 32, [1]), (32, .iload_n 2, 33, []), (33, .iastore, 34, []), (34, .iload_n 3, 35, []), (35, .ireturn, 36, [])])]
theorem pk_X5_step : pgk cX5_step P_X5_step := by unfold pgk pk; decide +kernel
def P_X5_isIn : PG := [(23, [(0, .aload_n 0, 1, []), (1, .getfield 9, 4, []), (4, .bipush 69, 6, [69]), (6, .aload_n 0, 7, []), (7, .iload_n 1, 8, []), (8, .iconst 2, 9, [2]), (9, .invokevirtual 59, 12, []), (12, .iadd, 13, []), (13, .iaload, 14, []), (14, .iconst 1, 15, [1]), (15, .if_icmp .ne 7, 18, [22]), (18, .iconst 1, 19, [1]), (19, .goto 4, 22, [23]), (22, .iconst 0, 23, [0])]), (24, [(23, .ireturn, 24, [])])]
theorem pk_X5_isIn : pgk cX5_isIn P_X5_isIn := by unfold pgk pk; decide +kernel
def P_X5_goes : PG := [(23, [(0, .aload_n 0, 1, []), (1, .iload_n 1, 2, []), (2, .iconst 4, 3, [4]), (3, .invokevirtual 59, 6, []), (6, .ifCond .ne 15, 9, [21]), (9, .aload_n 0, 10, []), (10, .iload_n 1, 11, []), (11, .invokevirtual 139, 14, []), (14, .ifCond .ne 7, 17, [21]), (17, .iconst 1, 18, [1]), (18, .goto 4, 21, [22]), (21, .iconst 0, 22, [0]), (22, .ireturn, 23, [])])]
theorem pk_X5_goes : pgk cX5_goes P_X5_goes := by unfold pgk pk; decide +kernel
def P_X5_minute : PG := [(23, [(0, .iconst 0, 1, [0]), (1, .istore_n 1, 2, []), (2, .iload_n 1, 3, []), (3, .aload_n 0, 4, []), (4, .getfield 9, 7, []), (7, .bipush 6, 9, [6]), (9, .iaload, 10, []), (10, .if_icmp .ge 56, 13, [66]), (13, .aload_n 0, 14, []), (14, .iload_n 1, 15, []), (15, .invokevirtual 142, 18, []), (18, .ifCond .eq 11, 21, [29]), (21, .aload_n 0, 22, []), (22, .iload_n 1, 23, [])]), (45, [(23, .invokevirtual 136, 26, []), (26, .goto 4, 29, [30]), (29, .iconst (-1), 30, [1, 1]), (30, .istore_n 2, 31, []), (31, .iload_n 2, 32, []), (32, .ifCond .lt 28, 35, [60]), (35, .aload_n 0, 36, []), (36, .iload_n 1, 37, []), (37, .iconst 3, 38, [3]), (38, .iload_n 2, 39, []), (39, .invokevirtual 89, 42, []), (42, .pop, 43, []), (43, .aload_n 0, 44, []), (44, .iload_n 1, 45, [])]), (69, [(45, .iconst 2, 46, [2]), (46, .aload_n 0, 47, []), (47, .iload_n 1, 48, []), (48, .iconst 2, 49, [2]), (49, .invokevirtual 59, 52, []), (52, .iload_n 2, 53, []), (53, .invokestatic 63, 56, []), (56, .invokevirtual 89, 59, []), (59, .pop, 60, []), (60, .iinc 1 1, 63, [1]), (63, .goto (-61), 66, [2]), (66, .iconst 0, 67, [0]), (67, .istore_n 1, 68, []), (68, .iload_n 1, 69, [])]), (94, [(69, .aload_n 0, 70, []), (70, .getfield 9, 73, []), (73, .bipush 6, 75, [6]), (75, .iaload, 76, []), (76, .if_icmp .ge 40, 79, [116]), (79, .aload_n 0, 80, []), (80, .iload_n 1, 81, []), (81, .invokevirtual 142, 84, []), (84, .ifCond .eq 26, 87, [110]), (87, .aload_n 0, 88, []), (88, .iload_n 1, 89, []), (89, .iconst 2, 90, [2]), (90, .invokevirtual 59, 93, []), (93, .aload_n 0, 94, [])]), (120, [(94, .getfield 9, 97, []), (97, .iconst 3, 98, [3]), (98, .iaload, 99, []), (99, .if_icmp .ne 11, 102, [110]), (102, .aload_n 0, 103, []), (103, .iload_n 1, 104, []), (104, .iconst 4, 105, [4]), (105, .iconst 1, 106, [1]), (106, .invokevirtual 89, 109, []), (109, .pop, 110, []), (110, .iinc 1 1, 113, [1]), (113, .goto (-45), 116, [68]), (116, .aload_n 0, 117, []), (117, .getfield 9, 120, [])]), (142, [(120, .iconst 5, 121, [5]), (121, .iaload, 122, []), (122, .ifCond .le 44, 125, [166]), (125, .aload_n 0, 126, []), (126, .getfield 9, 129, []), (129, .iconst 4, 130, [4]), (130, .aload_n 0, 131, []), (131, .getfield 9, 134, []), (134, .iconst 4, 135, [4]), (135, .iaload, 136, []), (136, .iconst 1, 137, [1]), (137, .iadd, 138, []), (138, .aload_n 0, 139, []), (139, .getfield 9, 142, [])]), (163, [(142, .iconst 5, 143, [5]), (143, .iaload, 144, []), (144, .irem, 145, []), (145, .iastore, 146, []), (146, .aload_n 0, 147, []), (147, .getfield 9, 150, []), (150, .iconst 3, 151, [3]), (151, .aload_n 0, 152, []), (152, .getfield 9, 155, []), (155, .bipush 7, 157, [7]), (157, .aload_n 0, 158, []), (158, .getfield 9, 161, []), (161, .iconst 4, 162, [4]), (162, .iaload, 163, [])]), (177, [(163, .iadd, 164, []), (164, .iaload, 165, []), (165, .iastore, 166, []), (166, .aload_n 0, 167, []), (167, .getfield 9, 170, []), (170, .iconst 0, 171, [0]), (171, .dup2, 172, []), (172, .iaload, 173, []), (173, .iconst 1, 174, [1]), (174, .iadd, 175, []), (175, .iastore, 176, []), (176, .return_, 177, [])])]
theorem pk_X5_minute : pgk cX5_minute P_X5_minute := by unfold pgk pk; decide +kernel
def P_X5_go : PG := [(18, [(0, .iconst 0, 1, [0]), (1, .istore_n 2, 2, []), (2, .iload_n 2, 3, []), (3, .iload_n 1, 4, []), (4, .if_icmp .ge 13, 7, [17]), (7, .aload_n 0, 8, []), (8, .invokevirtual 145, 11, []), (11, .iinc 2 1, 14, [1]), (14, .goto (-12), 17, [2]), (17, .return_, 18, [])])]
theorem pk_X5_go : pgk cX5_go P_X5_go := by unfold pgk pk; decide +kernel
def P_X5_inRiver : PG := [(21, [(0, .iconst 0, 1, [0]), (1, .istore_n 1, 2, []), (2, .iconst 0, 3, [0]), (3, .istore_n 2, 4, []), (4, .iload_n 2, 5, []), (5, .aload_n 0, 6, []), (6, .getfield 9, 9, []), (9, .bipush 6, 11, [6]), (11, .iaload, 12, []), (12, .if_icmp .ge 27, 15, [39]), (15, .iload_n 1, 16, []), (16, .aload_n 0, 17, []), (17, .iload_n 2, 18, []), (18, .invokevirtual 139, 21, [])]), (41, [(21, .ifCond .eq 9, 24, [30]), (24, .iconst 1, 25, [1]), (25, .iload_n 2, 26, []), (26, .ishl, 27, []), (27, .goto 4, 30, [31]), (30, .iconst 0, 31, [0]), (31, .ior, 32, []), (32, .istore_n 1, 33, []), (33, .iinc 2 1, 36, [1]), (36, .goto (-32), 39, [4]), (39, .iload_n 1, 40, []), (40, .ireturn, 41, [])])]
theorem pk_X5_inRiver : pgk cX5_inRiver P_X5_inRiver := by unfold pgk pk; decide +kernel
def P_X5_isLate : PG := [(20, [(0, .aload_n 0, 1, []), (1, .getfield 9, 4, []), (4, .iconst 0, 5, [0]), (5, .iaload, 6, []), (6, .iload_n 1, 7, []), (7, .iadd, 8, []), (8, .sipush 9999, 11, [9999]), (11, .if_icmp .le 7, 14, [18]), (14, .iconst 1, 15, [1]), (15, .goto 4, 18, [19]), (18, .iconst 0, 19, [0]), (19, .ireturn, 20, [])])]
theorem pk_X5_isLate : pgk cX5_isLate P_X5_isLate := by unfold pgk pk; decide +kernel
def P_X5_minutes : PG := [(26, [(0, .iload_n 1, 1, []), (1, .iconst 1, 2, [1]), (2, .sipush 500, 5, [500]), (5, .invokestatic 55, 8, []), (8, .ifCond .ne 9, 11, [17]), (11, .aload_n 0, 12, []), (12, .iconst 0, 13, [0]), (13, .invokevirtual 79, 16, []), (16, .ireturn, 17, []), (17, .aload_n 0, 18, []), (18, .iload_n 1, 19, []), (19, .invokevirtual 148, 22, []), (22, .ifCond .eq 9, 25, [31]), (25, .aload_n 0, 26, [])]), (48, [(26, .iconst 4, 27, [4]), (27, .invokevirtual 79, 30, []), (30, .ireturn, 31, []), (31, .aload_n 0, 32, []), (32, .invokevirtual 151, 35, []), (35, .istore_n 2, 36, []), (36, .aload_n 0, 37, []), (37, .iload_n 1, 38, []), (38, .invokevirtual 154, 41, []), (41, .aload_n 0, 42, []), (42, .invokevirtual 151, 45, []), (45, .iload_n 2, 46, []), (46, .iconst (-1), 47, [1, 1]), (47, .ixor, 48, [])]), (53, [(48, .iand, 49, []), (49, .invokestatic 124, 52, []), (52, .ireturn, 53, [])])]
theorem pk_X5_minutes : pgk cX5_minutes P_X5_minutes := by unfold pgk pk; decide +kernel
def P_X5_homeMany : PG := [(19, [(0, .iconst 0, 1, [0]), (1, .istore_n 1, 2, []), (2, .iconst 0, 3, [0]), (3, .istore_n 2, 4, []), (4, .iload_n 2, 5, []), (5, .aload_n 0, 6, []), (6, .getfield 9, 9, []), (9, .bipush 6, 11, [6]), (11, .iaload, 12, []), (12, .if_icmp .ge 32, 15, [44]), (15, .iload_n 1, 16, []), (16, .aload_n 0, 17, []), (17, .iload_n 2, 18, []), (18, .iconst 2, 19, [2])]), (45, [(19, .invokevirtual 59, 22, []), (22, .aload_n 0, 23, []), (23, .iload_n 2, 24, []), (24, .iconst 1, 25, [1]), (25, .invokevirtual 59, 28, []), (28, .if_icmp .ne 7, 31, [35]), (31, .iconst 1, 32, [1]), (32, .goto 4, 35, [36]), (35, .iconst 0, 36, [0]), (36, .iadd, 37, []), (37, .istore_n 1, 38, []), (38, .iinc 2 1, 41, [1]), (41, .goto (-37), 44, [4]), (44, .iload_n 1, 45, [])]), (46, [(45, .ireturn, 46, [])])]
theorem pk_X5_homeMany : pgk cX5_homeMany P_X5_homeMany := by unfold pgk pk; decide +kernel
def P_X5_bed : PG := [(21, [(0, .aload_n 0, 1, []), (1, .getfield 9, 4, []), (4, .bipush 6, 6, [6]), (6, .iaload, 7, []), (7, .aload_n 0, 8, []), (8, .invokevirtual 158, 11, []), (11, .isub, 12, []), (12, .istore_n 1, 13, []), (13, .aload_n 0, 14, []), (14, .getfield 9, 17, []), (17, .iconst 0, 18, [0]), (18, .iconst 0, 19, [0]), (19, .iastore, 20, []), (20, .iconst 0, 21, [0])]), (42, [(21, .istore_n 2, 22, []), (22, .iload_n 2, 23, []), (23, .aload_n 0, 24, []), (24, .getfield 9, 27, []), (27, .bipush 6, 29, [6]), (29, .iaload, 30, []), (30, .if_icmp .ge 30, 33, [60]), (33, .aload_n 0, 34, []), (34, .iload_n 2, 35, []), (35, .iconst 2, 36, [2]), (36, .aload_n 0, 37, []), (37, .iload_n 2, 38, []), (38, .iconst 1, 39, [1]), (39, .invokevirtual 59, 42, [])]), (62, [(42, .invokevirtual 89, 45, []), (45, .pop, 46, []), (46, .aload_n 0, 47, []), (47, .iload_n 2, 48, []), (48, .iconst 4, 49, [4]), (49, .iconst 0, 50, [0]), (50, .invokevirtual 89, 53, []), (53, .pop, 54, []), (54, .iinc 2 1, 57, [1]), (57, .goto (-35), 60, [22]), (60, .iload_n 1, 61, []), (61, .ireturn, 62, [])])]
theorem pk_X5_bed : pgk cX5_bed P_X5_bed := by unfold pgk pk; decide +kernel
def P_X5_seed : PG := [(7, [(0, .aload_n 0, 1, []), (1, .iconst 1, 2, [1]), (2, .iload_n 1, 3, []), (3, .invokevirtual 83, 6, []), (6, .ireturn, 7, [])])]
theorem pk_X5_seed : pgk cX5_seed P_X5_seed := by unfold pgk pk; decide +kernel
def P_X5_awake : PG := [(19, [(0, .iconst 0, 1, [0]), (1, .istore_n 1, 2, []), (2, .iconst 0, 3, [0]), (3, .istore_n 2, 4, []), (4, .iload_n 2, 5, []), (5, .aload_n 0, 6, []), (6, .getfield 9, 9, []), (9, .bipush 6, 11, [6]), (11, .iaload, 12, []), (12, .if_icmp .ge 18, 15, [30]), (15, .iload_n 1, 16, []), (16, .aload_n 0, 17, []), (17, .iload_n 2, 18, []), (18, .iconst 4, 19, [4])]), (32, [(19, .invokevirtual 59, 22, []), (22, .iadd, 23, []), (23, .istore_n 1, 24, []), (24, .iinc 2 1, 27, [1]), (27, .goto (-23), 30, [4]), (30, .iload_n 1, 31, []), (31, .ireturn, 32, [])])]
theorem pk_X5_awake : pgk cX5_awake P_X5_awake := by unfold pgk pk; decide +kernel
def P_X5_now : PG := [(58, [(0, .iload_n 1, 1, []), (1, .tableswitch 78 0 5 #[39, 46, 53, 60, 65, 73], 40, [79, 40, 47, 54, 61, 66, 74]), (40, .aload_n 0, 41, []), (41, .getfield 9, 44, []), (44, .iconst 0, 45, [0]), (45, .iaload, 46, []), (46, .ireturn, 47, []), (47, .aload_n 0, 48, []), (48, .getfield 9, 51, []), (51, .iconst 2, 52, [2]), (52, .iaload, 53, []), (53, .ireturn, 54, []), (54, .aload_n 0, 55, []), (55, .getfield 9, 58, [])]), (80, [(58, .iconst 3, 59, [3]), (59, .iaload, 60, []), (60, .ireturn, 61, []), (61, .aload_n 0, 62, []), (62, .invokevirtual 161, 65, []), (65, .ireturn, 66, []), (66, .aload_n 0, 67, []), (67, .invokevirtual 151, 70, []), (70, .invokestatic 124, 73, []), (73, .ireturn, 74, []), (74, .aload_n 0, 75, []), (75, .invokevirtual 158, 78, []), (78, .ireturn, 79, []), (79, .aload_n 0, 80, [])]), (85, [(80, .iconst 0, 81, [0]), (81, .invokevirtual 79, 84, []), (84, .ireturn, 85, [])])]
theorem pk_X5_now : pgk cX5_now P_X5_now := by unfold pgk pk; decide +kernel
def P_X5_on : PG := [(26, [(0, .aload_n 0, 1, []), (1, .iload_n 1, 2, []), (2, .invokevirtual 107, 5, []), (5, .ifCond .eq 14, 8, [19]), (8, .iload_n 2, 9, []), (9, .iconst 0, 10, [0]), (10, .sipush 500, 13, [500]), (13, .invokestatic 55, 16, []), (16, .ifCond .ne 9, 19, [25]), (19, .aload_n 0, 20, []), (20, .iconst 0, 21, [0]), (21, .invokevirtual 79, 24, []), (24, .ireturn, 25, []), (25, .aload_n 0, 26, [])]), (52, [(26, .iload_n 2, 27, []), (27, .invokevirtual 148, 30, []), (30, .ifCond .eq 9, 33, [39]), (33, .aload_n 0, 34, []), (34, .iconst 4, 35, [4]), (35, .invokevirtual 79, 38, []), (38, .ireturn, 39, []), (39, .aload_n 0, 40, []), (40, .getfield 9, 43, []), (43, .aload_n 0, 44, []), (44, .getfield 16, 47, []), (47, .invokestatic 164, 50, []), (50, .aload_n 0, 51, []), (51, .iload_n 2, 52, [])]), (75, [(52, .invokevirtual 154, 55, []), (55, .aload_n 0, 56, []), (56, .iload_n 1, 57, []), (57, .iconst 2, 58, [2]), (58, .invokevirtual 59, 61, []), (61, .istore_n 3, 62, []), (62, .aload_n 0, 63, []), (63, .getfield 16, 66, []), (66, .aload_n 0, 67, []), (67, .getfield 9, 70, []), (70, .invokestatic 164, 73, []), (73, .iload_n 3, 74, []), (74, .ireturn, 75, [])])]
theorem pk_X5_on : pgk cX5_on P_X5_on := by unfold pgk pk; decide +kernel
def P_X5_is : PG := [(24, [(0, .iload_n 1, 1, []), (1, .ifCond .ne 11, 4, [12]), (4, .aload_n 0, 5, []), (5, .iload_n 2, 6, []), (6, .invokevirtual 139, 9, []), (9, .goto 51, 12, [60]), (12, .iload_n 1, 13, []), (13, .iconst 1, 14, [1]), (14, .if_icmp .ne 26, 17, [40]), (17, .aload_n 0, 18, []), (18, .iload_n 2, 19, []), (19, .iconst 2, 20, [2]), (20, .invokevirtual 59, 23, []), (23, .aload_n 0, 24, [])]), (48, [(24, .iload_n 3, 25, []), (25, .iconst 2, 26, [2]), (26, .invokevirtual 59, 29, []), (29, .if_icmp .ne 7, 32, [36]), (32, .iconst 1, 33, [1]), (33, .goto 27, 36, [60]), (36, .iconst 0, 37, [0]), (37, .goto 23, 40, [60]), (40, .aload_n 0, 41, []), (41, .iload_n 2, 42, []), (42, .iconst 2, 43, [2]), (43, .invokevirtual 59, 46, []), (46, .aload_n 0, 47, []), (47, .iload_n 2, 48, [])]), (61, [(48, .iconst 1, 49, [1]), (49, .invokevirtual 59, 52, []), (52, .if_icmp .ne 7, 55, [59]), (55, .iconst 1, 56, [1]), (56, .goto 4, 59, [60]), (59, .iconst 0, 60, [0]), (60, .ireturn, 61, [])])]
theorem pk_X5_is : pgk cX5_is P_X5_is := by unfold pgk pk; decide +kernel
def P_X5_soonest : PG := [(28, [(0, .aload_n 0, 1, []), (1, .sipush 500, 4, [500]), (4, .invokevirtual 148, 7, []), (7, .ifCond .eq 9, 10, [16]), (10, .aload_n 0, 11, []), (11, .iconst 4, 12, [4]), (12, .invokevirtual 79, 15, []), (15, .ireturn, 16, []), (16, .aload_n 0, 17, []), (17, .getfield 9, 20, []), (20, .aload_n 0, 21, []), (21, .getfield 16, 24, []), (24, .invokestatic 164, 27, []), (27, .iconst 0, 28, [0])]), (54, [(28, .istore 4, 30, []), (30, .iload_n 1, 31, []), (31, .iconst 2, 32, [2]), (32, .if_icmp .ne 10, 35, [42]), (35, .aload_n 0, 36, []), (36, .invokevirtual 145, 39, []), (39, .iinc 4 1, 42, [1]), (42, .iload 4, 44, []), (44, .sipush 500, 47, [500]), (47, .if_icmp .ge 23, 50, [70]), (50, .aload_n 0, 51, []), (51, .iload_n 1, 52, []), (52, .iload_n 2, 53, []), (53, .iload_n 3, 54, [])]), (83, [(54, .invokevirtual 168, 57, []), (57, .ifCond .ne 13, 60, [70]), (60, .aload_n 0, 61, []), (61, .invokevirtual 145, 64, []), (64, .iinc 4 1, 67, [1]), (67, .goto (-25), 70, [42]), (70, .aload_n 0, 71, []), (71, .iload_n 1, 72, []), (72, .iload_n 2, 73, []), (73, .iload_n 3, 74, []), (74, .invokevirtual 168, 77, []), (77, .istore 5, 79, []), (79, .aload_n 0, 80, []), (80, .getfield 16, 83, [])]), (106, [(83, .aload_n 0, 84, []), (84, .getfield 9, 87, []), (87, .invokestatic 164, 90, []), (90, .iload 5, 92, []), (92, .ifCond .eq 8, 95, [100]), (95, .iload 4, 97, []), (97, .goto 8, 100, [105]), (100, .aload_n 0, 101, []), (101, .iconst 3, 102, [3]), (102, .invokevirtual 79, 105, []), (105, .ireturn, 106, [])])]
theorem pk_X5_soonest : pgk cX5_soonest P_X5_soonest := by unfold pgk pk; decide +kernel
def P_X5_river : PG := [(24, [(0, .aload_n 0, 1, []), (1, .iload_n 1, 2, []), (2, .invokevirtual 107, 5, []), (5, .ifCond .eq 13, 8, [18]), (8, .aload_n 0, 9, []), (9, .iconst 0, 10, [0]), (10, .iload_n 1, 11, []), (11, .iload_n 1, 12, []), (12, .invokevirtual 171, 15, []), (15, .goto 8, 18, [23]), (18, .aload_n 0, 19, []), (19, .iconst 0, 20, [0]), (20, .invokevirtual 79, 23, []), (23, .ireturn, 24, [])])]
theorem pk_X5_river : pgk cX5_river P_X5_river := by unfold pgk pk; decide +kernel
def P_X5_meet : PG := [(24, [(0, .aload_n 0, 1, []), (1, .iload_n 1, 2, []), (2, .invokevirtual 107, 5, []), (5, .ifCond .eq 26, 8, [31]), (8, .aload_n 0, 9, []), (9, .iload_n 2, 10, []), (10, .invokevirtual 107, 13, []), (13, .ifCond .eq 18, 16, [31]), (16, .iload_n 1, 17, []), (17, .iload_n 2, 18, []), (18, .if_icmp .eq 13, 21, [31]), (21, .aload_n 0, 22, []), (22, .iconst 1, 23, [1]), (23, .iload_n 1, 24, [])]), (37, [(24, .iload_n 2, 25, []), (25, .invokevirtual 171, 28, []), (28, .goto 8, 31, [36]), (31, .aload_n 0, 32, []), (32, .iconst 0, 33, [0]), (33, .invokevirtual 79, 36, []), (36, .ireturn, 37, [])])]
theorem pk_X5_meet : pgk cX5_meet P_X5_meet := by unfold pgk pk; decide +kernel
def P_X5_home : PG := [(24, [(0, .aload_n 0, 1, []), (1, .iload_n 1, 2, []), (2, .invokevirtual 107, 5, []), (5, .ifCond .eq 13, 8, [18]), (8, .aload_n 0, 9, []), (9, .iconst 2, 10, [2]), (10, .iload_n 1, 11, []), (11, .iload_n 1, 12, []), (12, .invokevirtual 171, 15, []), (15, .goto 8, 18, [23]), (18, .aload_n 0, 19, []), (19, .iconst 0, 20, [0]), (20, .invokevirtual 79, 23, []), (23, .ireturn, 24, [])])]
theorem pk_X5_home : pgk cX5_home P_X5_home := by unfold pgk pk; decide +kernel
def P_X5_isSafe : PG := [(24, [(0, .aload_n 0, 1, []), (1, .getfield 9, 4, []), (4, .aload_n 0, 5, []), (5, .getfield 16, 8, []), (8, .invokestatic 164, 11, []), (11, .aload_n 0, 12, []), (12, .invokevirtual 151, 15, []), (15, .istore_n 2, 16, []), (16, .iconst 0, 17, [0]), (17, .istore_n 3, 18, []), (18, .iload_n 3, 19, []), (19, .iload_n 1, 20, []), (20, .if_icmp .ge 21, 23, [41]), (23, .aload_n 0, 24, [])]), (54, [(24, .invokevirtual 151, 27, []), (27, .iload_n 2, 28, []), (28, .if_icmp .ne 13, 31, [41]), (31, .aload_n 0, 32, []), (32, .invokevirtual 145, 35, []), (35, .iinc 3 1, 38, [1]), (38, .goto (-20), 41, [18]), (41, .aload_n 0, 42, []), (42, .invokevirtual 151, 45, []), (45, .iload_n 2, 46, []), (46, .if_icmp .ne 7, 49, [53]), (49, .iconst 1, 50, [1]), (50, .goto 4, 53, [54]), (53, .iconst 0, 54, [0])]), (70, [(54, .istore 4, 56, []), (56, .aload_n 0, 57, []), (57, .getfield 16, 60, []), (60, .aload_n 0, 61, []), (61, .getfield 9, 64, []), (64, .invokestatic 164, 67, []), (67, .iload 4, 69, []), (69, .ireturn, 70, [])])]
theorem pk_X5_isSafe : pgk cX5_isSafe P_X5_isSafe := by unfold pgk pk; decide +kernel
def P_X5_safe : PG := [(26, [(0, .iload_n 1, 1, []), (1, .iconst 1, 2, [1]), (2, .sipush 500, 5, [500]), (5, .invokestatic 55, 8, []), (8, .ifCond .ne 9, 11, [17]), (11, .aload_n 0, 12, []), (12, .iconst 0, 13, [0]), (13, .invokevirtual 79, 16, []), (16, .ireturn, 17, []), (17, .aload_n 0, 18, []), (18, .iload_n 1, 19, []), (19, .invokevirtual 148, 22, []), (22, .ifCond .eq 9, 25, [31]), (25, .aload_n 0, 26, [])]), (45, [(26, .iconst 4, 27, [4]), (27, .invokevirtual 79, 30, []), (30, .ireturn, 31, []), (31, .aload_n 0, 32, []), (32, .iload_n 1, 33, []), (33, .invokevirtual 174, 36, []), (36, .ifCond .eq 7, 39, [43]), (39, .iconst 1, 40, [1]), (40, .goto 4, 43, [44]), (43, .iconst 0, 44, [0]), (44, .ireturn, 45, [])])]
theorem pk_X5_safe : pgk cX5_safe P_X5_safe := by unfold pgk pk; decide +kernel
def P_X5_banks : PG := [(19, [(0, .iconst 0, 1, [0]), (1, .istore_n 1, 2, []), (2, .iconst 0, 3, [0]), (3, .istore_n 2, 4, []), (4, .iload_n 2, 5, []), (5, .bipush 25, 7, [25]), (7, .if_icmp .ge 79, 10, [86]), (10, .iconst 1, 11, [1]), (11, .istore_n 3, 12, []), (12, .iload_n 3, 13, []), (13, .iconst 3, 14, [3]), (14, .if_icmp .ge 66, 17, [80]), (17, .iload_n 2, 18, []), (18, .iload_n 3, 19, [])]), (46, [(19, .invokestatic 63, 22, []), (22, .istore 4, 24, []), (24, .iload 4, 26, []), (26, .ifCond .lt 48, 29, [74]), (29, .aload_n 0, 30, []), (30, .iload_n 2, 31, []), (31, .iload_n 3, 32, []), (32, .invokevirtual 103, 35, []), (35, .ifCond .eq 39, 38, [74]), (38, .aload_n 0, 39, []), (39, .getfield 9, 42, []), (42, .bipush 69, 44, [69]), (44, .iload_n 2, 45, []), (45, .iadd, 46, [])]), (70, [(46, .iaload, 47, []), (47, .aload_n 0, 48, []), (48, .getfield 9, 51, []), (51, .bipush 69, 53, [69]), (53, .iload 4, 55, []), (55, .iadd, 56, []), (56, .iaload, 57, []), (57, .if_icmp .eq 17, 60, [74]), (60, .aload_n 0, 61, []), (61, .getfield 25, 64, []), (64, .iload_n 1, 65, []), (65, .iload_n 2, 66, []), (66, .iload_n 3, 67, []), (67, .invokestatic 66, 70, [])]), (88, [(70, .iastore, 71, []), (71, .iinc 1 1, 74, [1]), (74, .iinc 3 1, 77, [1]), (77, .goto (-65), 80, [12]), (80, .iinc 2 1, 83, [1]), (83, .goto (-79), 86, [4]), (86, .iload_n 1, 87, []), (87, .ireturn, 88, [])])]
theorem pk_X5_banks : pgk cX5_banks P_X5_banks := by unfold pgk pk; decide +kernel
def P_X5_isSafeBy : PG := [(24, [(0, .iconst 0, 1, [0]), (1, .istore 4, 3, []), (3, .iload 4, 5, []), (5, .iload_n 2, 6, []), (6, .if_icmp .ge 27, 9, [33]), (9, .aload_n 0, 10, []), (10, .getfield 9, 13, []), (13, .aload_n 0, 14, []), (14, .getfield 25, 17, []), (17, .iload 4, 19, []), (19, .iaload, 20, []), (20, .iload_n 1, 21, []), (21, .iload 4, 23, []), (23, .ishr, 24, [])]), (49, [(24, .iconst 1, 25, [1]), (25, .iand, 26, []), (26, .iastore, 27, []), (27, .iinc 4 1, 30, [1]), (30, .goto (-27), 33, [3]), (33, .aload_n 0, 34, []), (34, .iload_n 3, 35, []), (35, .invokevirtual 174, 38, []), (38, .istore 4, 40, []), (40, .iconst 0, 41, [0]), (41, .istore 5, 43, []), (43, .iload 5, 45, []), (45, .iload_n 2, 46, []), (46, .if_icmp .ge 22, 49, [68])]), (71, [(49, .aload_n 0, 50, []), (50, .getfield 9, 53, []), (53, .aload_n 0, 54, []), (54, .getfield 25, 57, []), (57, .iload 5, 59, []), (59, .iaload, 60, []), (60, .iconst 0, 61, [0]), (61, .iastore, 62, []), (62, .iinc 5 1, 65, [1]), (65, .goto (-22), 68, [43]), (68, .iload 4, 70, []), (70, .ireturn, 71, [])])]
theorem pk_X5_isSafeBy : pgk cX5_isSafeBy P_X5_isSafeBy := by unfold pgk pk; decide +kernel
def P_X5_barred : PG := [(25, [(0, .iload_n 1, 1, []), (1, .iconst 1, 2, [1]), (2, .bipush 120, 4, [120]), (4, .invokestatic 55, 7, []), (7, .ifCond .eq 12, 10, [19]), (10, .iload_n 2, 11, []), (11, .iconst 0, 12, [0]), (12, .iconst 1, 13, [1]), (13, .invokestatic 55, 16, []), (16, .ifCond .ne 9, 19, [25]), (19, .aload_n 0, 20, []), (20, .iconst 0, 21, [0]), (21, .invokevirtual 79, 24, []), (24, .ireturn, 25, [])]), (50, [(25, .aload_n 0, 26, []), (26, .iload_n 1, 27, []), (27, .invokevirtual 148, 30, []), (30, .ifCond .eq 9, 33, [39]), (33, .aload_n 0, 34, []), (34, .iconst 4, 35, [4]), (35, .invokevirtual 79, 38, []), (38, .ireturn, 39, []), (39, .aload_n 0, 40, []), (40, .invokevirtual 177, 43, []), (43, .istore_n 3, 44, []), (44, .iload_n 3, 45, []), (45, .bipush 12, 47, [12]), (47, .if_icmp .le 10, 50, [57])]), (73, [(50, .aload_n 0, 51, []), (51, .bipush 6, 53, [6]), (53, .invokevirtual 79, 56, []), (56, .ireturn, 57, []), (57, .iconst 0, 58, [0]), (58, .istore 4, 60, []), (60, .iload 4, 62, []), (62, .iload_n 3, 63, []), (63, .if_icmp .gt 59, 66, [122]), (66, .iconst 0, 67, [0]), (67, .istore 5, 69, []), (69, .iload 5, 71, []), (71, .iconst 1, 72, [1]), (72, .iload_n 3, 73, [])]), (102, [(73, .ishl, 74, []), (74, .if_icmp .ge 42, 77, [116]), (77, .iload 5, 79, []), (79, .invokestatic 124, 82, []), (82, .iload 4, 84, []), (84, .if_icmp .ne 26, 87, [110]), (87, .aload_n 0, 88, []), (88, .iload 5, 90, []), (90, .iload_n 3, 91, []), (91, .iload_n 1, 92, []), (92, .invokevirtual 180, 95, []), (95, .ifCond .eq 15, 98, [110]), (98, .iload_n 2, 99, []), (99, .ifCond .ne 8, 102, [107])]), (128, [(102, .iload 4, 104, []), (104, .goto 5, 107, [109]), (107, .iload 5, 109, []), (109, .ireturn, 110, []), (110, .iinc 5 1, 113, [1]), (113, .goto (-44), 116, [69]), (116, .iinc 4 1, 119, [1]), (119, .goto (-59), 122, [60]), (122, .aload_n 0, 123, []), (123, .iconst 3, 124, [3]), (124, .invokevirtual 79, 127, []), (127, .ireturn, 128, [])])]
theorem pk_X5_barred : pgk cX5_barred P_X5_barred := by unfold pgk pk; decide +kernel
def P_X5_lamp : PG := [(25, [(0, .iload_n 1, 1, []), (1, .iconst 1, 2, [1]), (2, .bipush 120, 4, [120]), (4, .invokestatic 55, 7, []), (7, .ifCond .ne 9, 10, [16]), (10, .aload_n 0, 11, []), (11, .iconst 0, 12, [0]), (12, .invokevirtual 79, 15, []), (15, .ireturn, 16, []), (16, .aload_n 0, 17, []), (17, .iload_n 1, 18, []), (18, .invokevirtual 148, 21, []), (21, .ifCond .eq 9, 24, [30]), (24, .aload_n 0, 25, [])]), (49, [(25, .iconst 4, 26, [4]), (26, .invokevirtual 79, 29, []), (29, .ireturn, 30, []), (30, .aload_n 0, 31, []), (31, .getfield 9, 34, []), (34, .aload_n 0, 35, []), (35, .getfield 19, 38, []), (38, .invokestatic 164, 41, []), (41, .aload_n 0, 42, []), (42, .iload_n 1, 43, []), (43, .invokevirtual 154, 46, []), (46, .iconst 0, 47, [0]), (47, .istore_n 2, 48, []), (48, .iload_n 2, 49, [])]), (74, [(49, .aload_n 0, 50, []), (50, .getfield 9, 53, []), (53, .bipush 6, 55, [6]), (55, .iaload, 56, []), (56, .if_icmp .ge 21, 59, [77]), (59, .aload_n 0, 60, []), (60, .getfield 28, 63, []), (63, .iload_n 2, 64, []), (64, .aload_n 0, 65, []), (65, .iload_n 2, 66, []), (66, .iconst 2, 67, [2]), (67, .invokevirtual 59, 70, []), (70, .iastore, 71, []), (71, .iinc 2 1, 74, [1])]), (99, [(74, .goto (-26), 77, [48]), (77, .iconst (-1), 78, [1, 1]), (78, .istore_n 2, 79, []), (79, .iconst 0, 80, [0]), (80, .istore_n 3, 81, []), (81, .iconst 0, 82, [0]), (82, .istore 4, 84, []), (84, .iload 4, 86, []), (86, .bipush 25, 88, [25]), (88, .if_icmp .ge 126, 91, [214]), (91, .aload_n 0, 92, []), (92, .getfield 19, 95, []), (95, .aload_n 0, 96, []), (96, .getfield 9, 99, [])]), (125, [(99, .invokestatic 164, 102, []), (102, .aload_n 0, 103, []), (103, .getfield 9, 106, []), (106, .bipush 44, 108, [44]), (108, .iload 4, 110, []), (110, .iadd, 111, []), (111, .iaload, 112, []), (112, .ifCond .ne 96, 115, [208]), (115, .aload_n 0, 116, []), (116, .getfield 9, 119, []), (119, .bipush 44, 121, [44]), (121, .iload 4, 123, []), (123, .iadd, 124, []), (124, .iconst 1, 125, [1])]), (149, [(125, .iastore, 126, []), (126, .aload_n 0, 127, []), (127, .iload_n 1, 128, []), (128, .invokevirtual 154, 131, []), (131, .iconst 0, 132, [0]), (132, .istore 5, 134, []), (134, .iconst 0, 135, [0]), (135, .istore 6, 137, []), (137, .iload 6, 139, []), (139, .aload_n 0, 140, []), (140, .getfield 9, 143, []), (143, .bipush 6, 145, [6]), (145, .iaload, 146, []), (146, .if_icmp .ge 36, 149, [182])]), (174, [(149, .iload 5, 151, []), (151, .aload_n 0, 152, []), (152, .iload 6, 154, []), (154, .iconst 2, 155, [2]), (155, .invokevirtual 59, 158, []), (158, .aload_n 0, 159, []), (159, .getfield 28, 162, []), (162, .iload 6, 164, []), (164, .iaload, 165, []), (165, .if_icmp .eq 7, 168, [172]), (168, .iconst 1, 169, [1]), (169, .goto 4, 172, [173]), (172, .iconst 0, 173, [0]), (173, .iadd, 174, [])]), (203, [(174, .istore 5, 176, []), (176, .iinc 6 1, 179, [1]), (179, .goto (-42), 182, [137]), (182, .iload 5, 184, []), (184, .iload_n 3, 185, []), (185, .if_icmp .le 8, 188, [193]), (188, .iload 4, 190, []), (190, .goto 4, 193, [194]), (193, .iload_n 2, 194, []), (194, .istore_n 2, 195, []), (195, .iload 5, 197, []), (197, .iload_n 3, 198, []), (198, .if_icmp .le 8, 201, [206]), (201, .iload 5, 203, [])]), (231, [(203, .goto 4, 206, [207]), (206, .iload_n 3, 207, []), (207, .istore_n 3, 208, []), (208, .iinc 4 1, 211, [1]), (211, .goto (-127), 214, [84]), (214, .aload_n 0, 215, []), (215, .getfield 19, 218, []), (218, .aload_n 0, 219, []), (219, .getfield 9, 222, []), (222, .invokestatic 164, 225, []), (225, .iload_n 2, 226, []), (226, .ifCond .ge 11, 229, [237]), (229, .aload_n 0, 230, []), (230, .iconst 3, 231, [3])]), (239, [(231, .invokevirtual 79, 234, []), (234, .goto 4, 237, [238]), (237, .iload_n 2, 238, []), (238, .ireturn, 239, [])])]
theorem pk_X5_lamp : pgk cX5_lamp P_X5_lamp := by unfold pgk pk; decide +kernel
def P_X5_watch : PG := [(25, [(0, .iload_n 1, 1, []), (1, .iconst 1, 2, [1]), (2, .bipush 120, 4, [120]), (4, .invokestatic 55, 7, []), (7, .ifCond .ne 9, 10, [16]), (10, .aload_n 0, 11, []), (11, .iconst 0, 12, [0]), (12, .invokevirtual 79, 15, []), (15, .ireturn, 16, []), (16, .aload_n 0, 17, []), (17, .iload_n 1, 18, []), (18, .invokevirtual 148, 21, []), (21, .ifCond .eq 9, 24, [30]), (24, .aload_n 0, 25, [])]), (48, [(25, .iconst 4, 26, [4]), (26, .invokevirtual 79, 29, []), (29, .ireturn, 30, []), (30, .aload_n 0, 31, []), (31, .getfield 9, 34, []), (34, .aload_n 0, 35, []), (35, .getfield 19, 38, []), (38, .invokestatic 164, 41, []), (41, .iconst 0, 42, [0]), (42, .istore_n 2, 43, []), (43, .iconst (-1), 44, [1, 1]), (44, .istore_n 3, 45, []), (45, .iconst 0, 46, [0]), (46, .istore 4, 48, [])]), (75, [(48, .iload 4, 50, []), (50, .bipush 25, 52, [25]), (52, .if_icmp .ge 72, 55, [124]), (55, .aload_n 0, 56, []), (56, .getfield 19, 59, []), (59, .aload_n 0, 60, []), (60, .getfield 9, 63, []), (63, .invokestatic 164, 66, []), (66, .aload_n 0, 67, []), (67, .getfield 9, 70, []), (70, .iconst 3, 71, [3]), (71, .iload 4, 73, []), (73, .iastore, 74, []), (74, .aload_n 0, 75, [])]), (100, [(75, .getfield 9, 78, []), (78, .iconst 5, 79, [5]), (79, .iconst 0, 80, [0]), (80, .iastore, 81, []), (81, .aload_n 0, 82, []), (82, .iload_n 1, 83, []), (83, .invokevirtual 154, 86, []), (86, .aload_n 0, 87, []), (87, .invokevirtual 161, 90, []), (90, .iload_n 3, 91, []), (91, .if_icmp .le 8, 94, [99]), (94, .iload 4, 96, []), (96, .goto 4, 99, [100]), (99, .iload_n 2, 100, [])]), (128, [(100, .istore_n 2, 101, []), (101, .aload_n 0, 102, []), (102, .invokevirtual 161, 105, []), (105, .iload_n 3, 106, []), (106, .if_icmp .le 10, 109, [116]), (109, .aload_n 0, 110, []), (110, .invokevirtual 161, 113, []), (113, .goto 4, 116, [117]), (116, .iload_n 3, 117, []), (117, .istore_n 3, 118, []), (118, .iinc 4 1, 121, [1]), (121, .goto (-73), 124, [48]), (124, .aload_n 0, 125, []), (125, .getfield 19, 128, [])]), (137, [(128, .aload_n 0, 129, []), (129, .getfield 9, 132, []), (132, .invokestatic 164, 135, []), (135, .iload_n 2, 136, []), (136, .ireturn, 137, [])])]
theorem pk_X5_watch : pgk cX5_watch P_X5_watch := by unfold pgk pk; decide +kernel
def P_X5_loop : PG := [(24, [(0, .aload_n 0, 1, []), (1, .iload_n 1, 2, []), (2, .invokevirtual 107, 5, []), (5, .ifCond .ne 9, 8, [14]), (8, .aload_n 0, 9, []), (9, .iconst 0, 10, [0]), (10, .invokevirtual 79, 13, []), (13, .ireturn, 14, []), (14, .aload_n 0, 15, []), (15, .iload_n 1, 16, []), (16, .iconst 0, 17, [0]), (17, .invokevirtual 59, 20, []), (20, .ifCond .ne 11, 23, [31]), (23, .aload_n 0, 24, [])]), (46, [(24, .iload_n 1, 25, []), (25, .invokevirtual 142, 28, []), (28, .ifCond .ne 9, 31, [37]), (31, .aload_n 0, 32, []), (32, .iconst 4, 33, [4]), (33, .invokevirtual 79, 36, []), (36, .ireturn, 37, []), (37, .aload_n 0, 38, []), (38, .iload_n 1, 39, []), (39, .iconst 2, 40, [2]), (40, .invokevirtual 59, 43, []), (43, .istore_n 2, 44, []), (44, .aload_n 0, 45, []), (45, .iload_n 1, 46, [])]), (71, [(46, .iconst 3, 47, [3]), (47, .invokevirtual 59, 50, []), (50, .istore_n 3, 51, []), (51, .iconst 1, 52, [1]), (52, .istore 4, 54, []), (54, .iload 4, 56, []), (56, .sipush 500, 59, [500]), (59, .if_icmp .gt 86, 62, [145]), (62, .aload_n 0, 63, []), (63, .getfield 9, 66, []), (66, .bipush 69, 68, [69]), (68, .iload_n 2, 69, []), (69, .iadd, 70, []), (70, .iaload, 71, [])]), (97, [(71, .iconst 1, 72, [1]), (72, .if_icmp .ne 7, 75, [79]), (75, .iconst (-1), 76, [1, 1]), (76, .goto 10, 79, [86]), (79, .aload_n 0, 80, []), (80, .iload_n 2, 81, []), (81, .iload_n 3, 82, []), (82, .iconst 0, 83, [0]), (83, .invokevirtual 116, 86, []), (86, .istore 5, 88, []), (88, .iload 5, 90, []), (90, .ifCond .ge 7, 93, [97]), (93, .iload_n 2, 94, []), (94, .goto 9, 97, [103])]), (120, [(97, .iload_n 2, 98, []), (98, .iload 5, 100, []), (100, .invokestatic 63, 103, []), (103, .istore_n 2, 104, []), (104, .iload 5, 106, []), (106, .ifCond .ge 7, 109, [113]), (109, .iload_n 3, 110, []), (110, .goto 5, 113, [115]), (113, .iload 5, 115, []), (115, .istore_n 3, 116, []), (116, .iload_n 2, 117, []), (117, .aload_n 0, 118, []), (118, .iload_n 1, 119, []), (119, .iconst 2, 120, [2])]), (147, [(120, .invokevirtual 59, 123, []), (123, .if_icmp .ne 16, 126, [139]), (126, .iload_n 3, 127, []), (127, .aload_n 0, 128, []), (128, .iload_n 1, 129, []), (129, .iconst 3, 130, [3]), (130, .invokevirtual 59, 133, []), (133, .if_icmp .ne 6, 136, [139]), (136, .iload 4, 138, []), (138, .ireturn, 139, []), (139, .iinc 4 1, 142, [1]), (142, .goto (-88), 145, [54]), (145, .aload_n 0, 146, []), (146, .iconst 3, 147, [3])]), (151, [(147, .invokevirtual 79, 150, []), (150, .ireturn, 151, [])])]
theorem pk_X5_loop : pgk cX5_loop P_X5_loop := by unfold pgk pk; decide +kernel
def P_X5_spreads : PG := [(23, [(0, .iconst 0, 1, [0]), (1, .istore_n 3, 2, []), (2, .iload_n 3, 3, []), (3, .bipush 25, 5, [25]), (5, .if_icmp .ge 25, 8, [30]), (8, .aload_n 0, 9, []), (9, .getfield 31, 12, []), (12, .iload_n 3, 13, []), (13, .iload_n 3, 14, []), (14, .iload_n 1, 15, []), (15, .if_icmp .ne 7, 18, [22]), (18, .lconst 1, 19, []), (19, .goto 4, 22, [23]), (22, .lconst 0, 23, [])]), (48, [(23, .lastore, 24, []), (24, .iinc 3 1, 27, [1]), (27, .goto (-25), 30, [2]), (30, .iconst 0, 31, [0]), (31, .istore_n 3, 32, []), (32, .iload_n 3, 33, []), (33, .iload_n 2, 34, []), (34, .if_icmp .ge 193, 37, [227]), (37, .iconst 0, 38, [0]), (38, .istore 4, 40, []), (40, .iload 4, 42, []), (42, .bipush 25, 44, [25]), (44, .if_icmp .ge 17, 47, [61]), (47, .aload_n 0, 48, [])]), (77, [(48, .getfield 35, 51, []), (51, .iload 4, 53, []), (53, .lconst 0, 54, []), (54, .lastore, 55, []), (55, .iinc 4 1, 58, [1]), (58, .goto (-18), 61, [40]), (61, .iconst 0, 62, [0]), (62, .istore 4, 64, []), (64, .iload 4, 66, []), (66, .bipush 25, 68, [25]), (68, .if_icmp .ge 123, 71, [191]), (71, .aload_n 0, 72, []), (72, .getfield 9, 75, []), (75, .bipush 69, 77, [69])]), (103, [(77, .iload 4, 79, []), (79, .iadd, 80, []), (80, .iaload, 81, []), (81, .iconst 1, 82, [1]), (82, .if_icmp .ne 7, 85, [89]), (85, .iconst 0, 86, [0]), (86, .goto 9, 89, [95]), (89, .aload_n 0, 90, []), (90, .iload 4, 92, []), (92, .invokevirtual 110, 95, []), (95, .istore 5, 97, []), (97, .aload_n 0, 98, []), (98, .getfield 35, 101, []), (101, .iload 4, 103, [])]), (127, [(103, .dup2, 104, []), (104, .laload, 105, []), (105, .iload 5, 107, []), (107, .ifCond .ne 17, 110, [124]), (110, .ldc2_w 183, 113, []), (113, .aload_n 0, 114, []), (114, .getfield 31, 117, []), (117, .iload 4, 119, []), (119, .laload, 120, []), (120, .lmul, 121, []), (121, .goto 4, 124, [125]), (124, .lconst 0, 125, []), (125, .ladd, 126, []), (126, .lastore, 127, [])]), (151, [(127, .iconst 0, 128, [0]), (128, .istore 6, 130, []), (130, .iload 6, 132, []), (132, .iconst 4, 133, [4]), (133, .if_icmp .ge 52, 136, [185]), (136, .iload 5, 138, []), (138, .iload 6, 140, []), (140, .ishr, 141, []), (141, .iconst 1, 142, [1]), (142, .iand, 143, []), (143, .iconst 1, 144, [1]), (144, .if_icmp .ne 35, 147, [179]), (147, .aload_n 0, 148, []), (148, .getfield 35, 151, [])]), (176, [(151, .iload 4, 153, []), (153, .iload 6, 155, []), (155, .invokestatic 63, 158, []), (158, .dup2, 159, []), (159, .laload, 160, []), (160, .bipush 12, 162, [12]), (162, .iload 5, 164, []), (164, .invokestatic 124, 167, []), (167, .idiv, 168, []), (168, .i2l, 169, []), (169, .aload_n 0, 170, []), (170, .getfield 31, 173, []), (173, .iload 4, 175, []), (175, .laload, 176, [])]), (205, [(176, .lmul, 177, []), (177, .ladd, 178, []), (178, .lastore, 179, []), (179, .iinc 6 1, 182, [1]), (182, .goto (-52), 185, [130]), (185, .iinc 4 1, 188, [1]), (188, .goto (-124), 191, [64]), (191, .iconst 0, 192, [0]), (192, .istore 4, 194, []), (194, .iload 4, 196, []), (196, .bipush 25, 198, [25]), (198, .if_icmp .ge 23, 201, [221]), (201, .aload_n 0, 202, []), (202, .getfield 31, 205, [])]), (228, [(205, .iload 4, 207, []), (207, .aload_n 0, 208, []), (208, .getfield 35, 211, []), (211, .iload 4, 213, []), (213, .laload, 214, []), (214, .lastore, 215, []), (215, .iinc 4 1, 218, [1]), (218, .goto (-24), 221, [194]), (221, .iinc 3 1, 224, [1]), (224, .goto (-192), 227, [32]), (227, .return_, 228, [])])]
theorem pk_X5_spreads : pgk cX5_spreads P_X5_spreads := by unfold pgk pk; decide +kernel
def P_X5_odds : PG := [(27, [(0, .aload_n 0, 1, []), (1, .iload_n 1, 2, []), (2, .invokevirtual 107, 5, []), (5, .ifCond .eq 20, 8, [25]), (8, .iload_n 2, 9, []), (9, .invokestatic 69, 12, []), (12, .ifCond .eq 13, 15, [25]), (15, .iload_n 3, 16, []), (16, .iconst 0, 17, [0]), (17, .bipush 15, 19, [15]), (19, .invokestatic 55, 22, []), (22, .ifCond .ne 10, 25, [32]), (25, .aload_n 0, 26, []), (26, .iconst 0, 27, [0])]), (49, [(27, .invokevirtual 79, 30, []), (30, .i2l, 31, []), (31, .lreturn, 32, []), (32, .aload_n 0, 33, []), (33, .iload_n 1, 34, []), (34, .iconst 0, 35, [0]), (35, .invokevirtual 59, 38, []), (38, .iconst 4, 39, [4]), (39, .if_icmp .eq 10, 42, [49]), (42, .aload_n 0, 43, []), (43, .iconst 4, 44, [4]), (44, .invokevirtual 79, 47, []), (47, .i2l, 48, []), (48, .lreturn, 49, [])]), (67, [(49, .aload_n 0, 50, []), (50, .aload_n 0, 51, []), (51, .iload_n 1, 52, []), (52, .iconst 2, 53, [2]), (53, .invokevirtual 59, 56, []), (56, .iload_n 3, 57, []), (57, .invokevirtual 185, 60, []), (60, .aload_n 0, 61, []), (61, .getfield 31, 64, []), (64, .iload_n 2, 65, []), (65, .laload, 66, []), (66, .lreturn, 67, [])])]
theorem pk_X5_odds : pgk cX5_odds P_X5_odds := by unfold pgk pk; decide +kernel
def P_X5_likeliest : PG := [(25, [(0, .aload_n 0, 1, []), (1, .iload_n 1, 2, []), (2, .invokevirtual 107, 5, []), (5, .ifCond .eq 13, 8, [18]), (8, .iload_n 2, 9, []), (9, .iconst 0, 10, [0]), (10, .bipush 15, 12, [15]), (12, .invokestatic 55, 15, []), (15, .ifCond .ne 9, 18, [24]), (18, .aload_n 0, 19, []), (19, .iconst 0, 20, [0]), (20, .invokevirtual 79, 23, []), (23, .ireturn, 24, []), (24, .aload_n 0, 25, [])]), (47, [(25, .iload_n 1, 26, []), (26, .iconst 0, 27, [0]), (27, .invokevirtual 59, 30, []), (30, .iconst 4, 31, [4]), (31, .if_icmp .eq 9, 34, [40]), (34, .aload_n 0, 35, []), (35, .iconst 4, 36, [4]), (36, .invokevirtual 79, 39, []), (39, .ireturn, 40, []), (40, .aload_n 0, 41, []), (41, .aload_n 0, 42, []), (42, .iload_n 1, 43, []), (43, .iconst 2, 44, [2]), (44, .invokevirtual 59, 47, [])]), (71, [(47, .iload_n 2, 48, []), (48, .invokevirtual 185, 51, []), (51, .iconst 0, 52, [0]), (52, .istore_n 3, 53, []), (53, .iconst 1, 54, [1]), (54, .istore 4, 56, []), (56, .iload 4, 58, []), (58, .bipush 25, 60, [25]), (60, .if_icmp .ge 33, 63, [93]), (63, .aload_n 0, 64, []), (64, .getfield 31, 67, []), (67, .iload 4, 69, []), (69, .laload, 70, []), (70, .aload_n 0, 71, [])]), (95, [(71, .getfield 31, 74, []), (74, .iload_n 3, 75, []), (75, .laload, 76, []), (76, .lcmp, 77, []), (77, .ifCond .le 8, 80, [85]), (80, .iload 4, 82, []), (82, .goto 4, 85, [86]), (85, .iload_n 3, 86, []), (86, .istore_n 3, 87, []), (87, .iinc 4 1, 90, [1]), (90, .goto (-34), 93, [56]), (93, .iload_n 3, 94, []), (94, .ireturn, 95, [])])]
theorem pk_X5_likeliest : pgk cX5_likeliest P_X5_likeliest := by unfold pgk pk; decide +kernel
def P_X5_feed : PG := [(23, [(0, .iload_n 2, 1, []), (1, .iconst 1, 2, [1]), (2, .iconst 4, 3, [4]), (3, .invokestatic 55, 6, []), (6, .ifCond .ne 9, 9, [15]), (9, .aload_n 0, 10, []), (10, .iconst 0, 11, [0]), (11, .invokevirtual 79, 14, []), (14, .ireturn, 15, []), (15, .aload_n 0, 16, []), (16, .getfield 189, 19, []), (19, .iload_n 2, 20, []), (20, .iadd, 21, []), (21, .bipush 120, 23, [120])]), (45, [(23, .if_icmp .le 9, 26, [32]), (26, .aload_n 0, 27, []), (27, .iconst 1, 28, [1]), (28, .invokevirtual 79, 31, []), (31, .ireturn, 32, []), (32, .iload_n 2, 33, []), (33, .iconst 1, 34, [1]), (34, .isub, 35, []), (35, .istore_n 3, 36, []), (36, .iload_n 3, 37, []), (37, .ifCond .lt 38, 40, [75]), (40, .aload_n 0, 41, []), (41, .getfield 38, 44, []), (44, .aload_n 0, 45, [])]), (66, [(45, .getfield 189, 48, []), (48, .iload_n 1, 49, []), (49, .bipush 8, 51, [8]), (51, .iload_n 3, 52, []), (52, .imul, 53, []), (53, .ishr, 54, []), (54, .sipush 255, 57, [255]), (57, .iand, 58, []), (58, .iastore, 59, []), (59, .aload_n 0, 60, []), (60, .dup, 61, []), (61, .getfield 189, 64, []), (64, .iconst 1, 65, [1]), (65, .iadd, 66, [])]), (80, [(66, .putfield 189, 69, []), (69, .iinc 3 (-1), 72, [1, 1]), (72, .goto (-36), 75, [36]), (75, .aload_n 0, 76, []), (76, .getfield 189, 79, []), (79, .ireturn, 80, [])])]
theorem pk_X5_feed : pgk cX5_feed P_X5_feed := by unfold pgk pk; decide +kernel
def P_X5_wipe : PG := [(12, [(0, .aload_n 0, 1, []), (1, .getfield 189, 4, []), (4, .istore_n 1, 5, []), (5, .aload_n 0, 6, []), (6, .iconst 0, 7, [0]), (7, .putfield 189, 10, []), (10, .iload_n 1, 11, []), (11, .ireturn, 12, [])])]
theorem pk_X5_wipe : pgk cX5_wipe P_X5_wipe := by unfold pgk pk; decide +kernel
def P_X5_byteAt : PG := [(19, [(0, .iload_n 1, 1, []), (1, .aload_n 0, 2, []), (2, .getfield 189, 5, []), (5, .if_icmp .ge 12, 8, [17]), (8, .aload_n 0, 9, []), (9, .getfield 38, 12, []), (12, .iload_n 1, 13, []), (13, .iaload, 14, []), (14, .goto 4, 17, [18]), (17, .iconst (-1), 18, [1, 1]), (18, .ireturn, 19, [])])]
theorem pk_X5_byteAt : pgk cX5_byteAt P_X5_byteAt := by unfold pgk pk; decide +kernel
def P_X5_blanks : PG := [(27, [(0, .aload_n 0, 1, []), (1, .aload_n 0, 2, []), (2, .getfield 193, 5, []), (5, .invokevirtual 196, 8, []), (8, .bipush 32, 10, [32]), (10, .if_icmp .ne 16, 13, [26]), (13, .aload_n 0, 14, []), (14, .dup, 15, []), (15, .getfield 193, 18, []), (18, .iconst 1, 19, [1]), (19, .iadd, 20, []), (20, .putfield 193, 23, []), (23, .goto (-23), 26, [0]), (26, .return_, 27, [])])]
theorem pk_X5_blanks : pgk cX5_blanks P_X5_blanks := by unfold pgk pk; decide +kernel
def P_X5_fails : PG := [(24, [(0, .aload_n 0, 1, []), (1, .aload_n 0, 2, []), (2, .getfield 199, 5, []), (5, .ifCond .ge 10, 8, [15]), (8, .aload_n 0, 9, []), (9, .getfield 193, 12, []), (12, .goto 7, 15, [19]), (15, .aload_n 0, 16, []), (16, .getfield 199, 19, []), (19, .putfield 199, 22, []), (22, .iconst 0, 23, [0]), (23, .ireturn, 24, [])])]
theorem pk_X5_fails : pgk cX5_fails P_X5_fails := by unfold pgk pk; decide +kernel
def P_X5_isLetter : PG := [(9, [(0, .iload_n 0, 1, []), (1, .bipush 97, 3, [97]), (3, .bipush 122, 5, [122]), (5, .invokestatic 55, 8, []), (8, .ireturn, 9, [])])]
theorem pk_X5_isLetter : pgk cX5_isLetter P_X5_isLetter := by unfold pgk pk; decide +kernel
def P_X5_isDigit : PG := [(9, [(0, .iload_n 0, 1, []), (1, .bipush 48, 3, [48]), (3, .bipush 57, 5, [57]), (5, .invokestatic 55, 8, []), (8, .ireturn, 9, [])])]
theorem pk_X5_isDigit : pgk cX5_isDigit P_X5_isDigit := by unfold pgk pk; decide +kernel
def P_X5_wordEnd : PG := [(24, [(0, .aload_n 0, 1, []), (1, .getfield 193, 4, []), (4, .istore_n 1, 5, []), (5, .aload_n 0, 6, []), (6, .iload_n 1, 7, []), (7, .invokevirtual 196, 10, []), (10, .invokestatic 202, 13, []), (13, .ifCond .eq 9, 16, [22]), (16, .iinc 1 1, 19, [1]), (19, .goto (-14), 22, [5]), (22, .iload_n 1, 23, []), (23, .ireturn, 24, [])])]
theorem pk_X5_wordEnd : pgk cX5_wordEnd P_X5_wordEnd := by unfold pgk pk; decide +kernel
def P_X5_isWord : PG := [(26, [(0, .aload_n 0, 1, []), (1, .invokevirtual 205, 4, []), (4, .aload_n 0, 5, []), (5, .invokevirtual 208, 8, []), (8, .aload_n 0, 9, []), (9, .getfield 193, 12, []), (12, .isub, 13, []), (13, .aload_n 1, 14, []), (14, .invokevirtual 211, 17, []), (17, .if_icmp .ne 7, 20, [24]), (20, .iconst 1, 21, [1]), (21, .goto 4, 24, [25]), (24, .iconst 0, 25, [0]), (25, .istore_n 2, 26, [])]), (50, [(26, .iconst 0, 27, [0]), (27, .istore_n 3, 28, []), (28, .iload_n 3, 29, []), (29, .aload_n 1, 30, []), (30, .invokevirtual 211, 33, []), (33, .if_icmp .ge 37, 36, [70]), (36, .iload_n 2, 37, []), (37, .ifCond .eq 33, 40, [70]), (40, .aload_n 0, 41, []), (41, .aload_n 0, 42, []), (42, .getfield 193, 45, []), (45, .iload_n 3, 46, []), (46, .iadd, 47, []), (47, .invokevirtual 196, 50, [])]), (72, [(50, .aload_n 1, 51, []), (51, .iload_n 3, 52, []), (52, .invokevirtual 216, 55, []), (55, .if_icmp .ne 7, 58, [62]), (58, .iconst 1, 59, [1]), (59, .goto 4, 62, [63]), (62, .iconst 0, 63, [0]), (63, .istore_n 2, 64, []), (64, .iinc 3 1, 67, [1]), (67, .goto (-39), 70, [28]), (70, .iload_n 2, 71, []), (71, .ireturn, 72, [])])]
theorem pk_X5_isWord : pgk cX5_isWord P_X5_isWord := by unfold pgk pk; decide +kernel
def P_X5_may_ : PG := [(26, [(0, .aload_n 0, 1, []), (1, .getfield 199, 4, []), (4, .ifCond .ge 15, 7, [19]), (7, .aload_n 0, 8, []), (8, .aload_n 1, 9, []), (9, .invokevirtual 220, 12, []), (12, .ifCond .eq 7, 15, [19]), (15, .iconst 1, 16, [1]), (16, .goto 4, 19, [20]), (19, .iconst 0, 20, [0]), (20, .istore_n 2, 21, []), (21, .aload_n 0, 22, []), (22, .dup, 23, []), (23, .getfield 193, 26, [])]), (44, [(26, .iload_n 2, 27, []), (27, .ifCond .eq 10, 30, [37]), (30, .aload_n 1, 31, []), (31, .invokevirtual 211, 34, []), (34, .goto 4, 37, [38]), (37, .iconst 0, 38, [0]), (38, .iadd, 39, []), (39, .putfield 193, 42, []), (42, .iload_n 2, 43, []), (43, .ireturn, 44, [])])]
theorem pk_X5_may_ : pgk cX5_may_ P_X5_may_ := by unfold pgk pk; decide +kernel
def P_X5_must : PG := [(21, [(0, .aload_n 0, 1, []), (1, .aload_n 1, 2, []), (2, .invokevirtual 224, 5, []), (5, .ifCond .ne 10, 8, [15]), (8, .aload_n 0, 9, []), (9, .invokevirtual 226, 12, []), (12, .ifCond .eq 7, 15, [19]), (15, .iconst 1, 16, [1]), (16, .goto 4, 19, [20]), (19, .iconst 0, 20, [0]), (20, .ireturn, 21, [])])]
theorem pk_X5_must : pgk cX5_must P_X5_must := by unfold pgk pk; decide +kernel
def P_X5_number : PG := [(30, [(0, .aload_n 0, 1, []), (1, .invokevirtual 205, 4, []), (4, .aload_n 0, 5, []), (5, .getfield 199, 8, []), (8, .ifCond .ge 17, 11, [25]), (11, .aload_n 0, 12, []), (12, .aload_n 0, 13, []), (13, .getfield 193, 16, []), (16, .invokevirtual 196, 19, []), (19, .invokestatic 230, 22, []), (22, .ifCond .ne 8, 25, [30]), (25, .aload_n 0, 26, []), (26, .invokevirtual 226, 29, []), (29, .ireturn, 30, [])]), (58, [(30, .lconst 0, 31, []), (31, .lstore_n 3, 32, []), (32, .aload_n 0, 33, []), (33, .getfield 193, 36, []), (36, .istore 5, 38, []), (38, .aload_n 0, 39, []), (39, .iload 5, 41, []), (41, .invokevirtual 196, 44, []), (44, .invokestatic 230, 47, []), (47, .ifCond .eq 33, 50, [80]), (50, .ldc2_w 233, 53, []), (53, .ldc2_w 235, 56, []), (56, .lload_n 3, 57, []), (57, .lmul, 58, [])]), (83, [(58, .aload_n 0, 59, []), (59, .iload 5, 61, []), (61, .invokevirtual 196, 64, []), (64, .i2l, 65, []), (65, .ladd, 66, []), (66, .ldc2_w 237, 69, []), (69, .lsub, 70, []), (70, .invokestatic 239, 73, []), (73, .lstore_n 3, 74, []), (74, .iinc 5 1, 77, [1]), (77, .goto (-39), 80, [38]), (80, .lload_n 3, 81, []), (81, .iload_n 1, 82, []), (82, .i2l, 83, [])]), (106, [(83, .lcmp, 84, []), (84, .ifCond .lt 10, 87, [94]), (87, .lload_n 3, 88, []), (88, .iload_n 2, 89, []), (89, .i2l, 90, []), (90, .lcmp, 91, []), (91, .ifCond .le 8, 94, [99]), (94, .aload_n 0, 95, []), (95, .invokevirtual 226, 98, []), (98, .ireturn, 99, []), (99, .aload_n 0, 100, []), (100, .iload 5, 102, []), (102, .putfield 193, 105, []), (105, .aload_n 0, 106, [])]), (113, [(106, .lload_n 3, 107, []), (107, .l2i, 108, []), (108, .putfield 245, 111, []), (111, .iconst 1, 112, [1]), (112, .ireturn, 113, [])])]
theorem pk_X5_number : pgk cX5_number P_X5_number := by unfold pgk pk; decide +kernel
def P_X5_isNumber : PG := [(30, [(0, .aload_n 0, 1, []), (1, .invokevirtual 205, 4, []), (4, .aload_n 0, 5, []), (5, .getfield 199, 8, []), (8, .ifCond .ge 21, 11, [29]), (11, .aload_n 0, 12, []), (12, .aload_n 0, 13, []), (13, .getfield 193, 16, []), (16, .invokevirtual 196, 19, []), (19, .invokestatic 230, 22, []), (22, .ifCond .eq 7, 25, [29]), (25, .iconst 1, 26, [1]), (26, .goto 4, 29, [30]), (29, .iconst 0, 30, [0])]), (31, [(30, .ireturn, 31, [])])]
theorem pk_X5_isNumber : pgk cX5_isNumber P_X5_isNumber := by unfold pgk pk; decide +kernel
def P_X5_kindName : PG := [(56, [(0, .iload_n 0, 1, []), (1, .tableswitch 51 0 4 #[35, 38, 41, 44, 47], 36, [52, 36, 39, 42, 45, 48]), (36, .ldc 248, 38, []), (38, .areturn, 39, []), (39, .ldc 250, 41, []), (41, .areturn, 42, []), (42, .ldc 252, 44, []), (44, .areturn, 45, []), (45, .ldc 254, 47, []), (47, .areturn, 48, []), (48, .ldc_w 256, 51, []), (51, .areturn, 52, []), (52, .ldc_w 258, 55, []), (55, .areturn, 56, [])])]
theorem pk_X5_kindName : pgk cX5_kindName P_X5_kindName := by unfold pgk pk; decide +kernel
def P_X5_doorTold : PG := [(25, [(0, .aload_n 0, 1, []), (1, .iconst 0, 2, [0]), (2, .bipush 24, 4, [24]), (4, .invokevirtual 260, 7, []), (7, .ifCond .ne 5, 10, [12]), (10, .iconst 0, 11, [0]), (11, .ireturn, 12, []), (12, .aload_n 0, 13, []), (13, .getfield 245, 16, []), (16, .istore_n 2, 17, []), (17, .aload_n 0, 18, []), (18, .invokevirtual 205, 21, []), (21, .aload_n 0, 22, []), (22, .getfield 193, 25, [])]), (50, [(25, .istore_n 3, 26, []), (26, .aload_n 0, 27, []), (27, .iconst 0, 28, [0]), (28, .bipush 24, 30, [24]), (30, .invokevirtual 260, 33, []), (33, .ifCond .ne 5, 36, [38]), (36, .iconst 0, 37, [0]), (37, .ireturn, 38, []), (38, .iload_n 2, 39, []), (39, .aload_n 0, 40, []), (40, .getfield 245, 43, []), (43, .invokestatic 73, 46, []), (46, .istore 4, 48, []), (48, .iload 4, 50, [])]), (75, [(50, .ifCond .ge 13, 53, [63]), (53, .aload_n 0, 54, []), (54, .iload_n 3, 55, []), (55, .putfield 193, 58, []), (58, .aload_n 0, 59, []), (59, .invokevirtual 226, 62, []), (62, .ireturn, 63, []), (63, .aload_n 0, 64, []), (64, .getfield 9, 67, []), (67, .iload_n 2, 68, []), (68, .iload 4, 70, []), (70, .invokestatic 66, 73, []), (73, .iload_n 1, 74, []), (74, .iastore, 75, [])]), (77, [(75, .iconst 1, 76, [1]), (76, .ireturn, 77, [])])]
theorem pk_X5_doorTold : pgk cX5_doorTold P_X5_doorTold := by unfold pgk pk; decide +kernel
def P_X5_heightTold : PG := [(24, [(0, .aload_n 0, 1, []), (1, .iconst 0, 2, [0]), (2, .bipush 24, 4, [24]), (4, .invokevirtual 260, 7, []), (7, .ifCond .ne 5, 10, [12]), (10, .iconst 0, 11, [0]), (11, .ireturn, 12, []), (12, .aload_n 0, 13, []), (13, .getfield 245, 16, []), (16, .istore_n 1, 17, []), (17, .aload_n 0, 18, []), (18, .iconst 0, 19, [0]), (19, .bipush 9, 21, [9]), (21, .invokevirtual 260, 24, [])]), (44, [(24, .ifCond .ne 5, 27, [29]), (27, .iconst 0, 28, [0]), (28, .ireturn, 29, []), (29, .aload_n 0, 30, []), (30, .getfield 9, 33, []), (33, .bipush 19, 35, [19]), (35, .iload_n 1, 36, []), (36, .iadd, 37, []), (37, .aload_n 0, 38, []), (38, .getfield 245, 41, []), (41, .iastore, 42, []), (42, .iconst 1, 43, [1]), (43, .ireturn, 44, [])])]
theorem pk_X5_heightTold : pgk cX5_heightTold P_X5_heightTold := by unfold pgk pk; decide +kernel
def P_X5_markTold : PG := [(23, [(0, .aload_n 0, 1, []), (1, .iconst 0, 2, [0]), (2, .bipush 24, 4, [24]), (4, .invokevirtual 260, 7, []), (7, .ifCond .ne 5, 10, [12]), (10, .iconst 0, 11, [0]), (11, .ireturn, 12, []), (12, .aload_n 0, 13, []), (13, .getfield 9, 16, []), (16, .iload_n 1, 17, []), (17, .aload_n 0, 18, []), (18, .getfield 245, 21, []), (21, .iadd, 22, []), (22, .iload_n 2, 23, [])]), (26, [(23, .iastore, 24, []), (24, .iconst 1, 25, [1]), (25, .ireturn, 26, [])])]
theorem pk_X5_markTold : pgk cX5_markTold P_X5_markTold := by unfold pgk pk; decide +kernel
def P_X5_walkerTold : PG := [(27, [(0, .aload_n 0, 1, []), (1, .ldc_w 263, 4, []), (4, .invokevirtual 265, 7, []), (7, .ifCond .eq 13, 10, [20]), (10, .aload_n 0, 11, []), (11, .iconst 0, 12, [0]), (12, .bipush 24, 14, [24]), (14, .invokevirtual 260, 17, []), (17, .ifCond .ne 5, 20, [22]), (20, .iconst 0, 21, [0]), (21, .ireturn, 22, []), (22, .aload_n 0, 23, []), (23, .getfield 245, 26, []), (26, .istore_n 2, 27, [])]), (51, [(27, .iconst 0, 28, [0]), (28, .istore_n 3, 29, []), (29, .aload_n 0, 30, []), (30, .ldc_w 268, 33, []), (33, .invokevirtual 224, 36, []), (36, .ifCond .eq 19, 39, [55]), (39, .aload_n 0, 40, []), (40, .iconst 0, 41, [0]), (41, .iconst 3, 42, [3]), (42, .invokevirtual 260, 45, []), (45, .ifCond .ne 5, 48, [50]), (48, .iconst 0, 49, [0]), (49, .ireturn, 50, []), (50, .aload_n 0, 51, [])]), (64, [(51, .getfield 245, 54, []), (54, .istore_n 3, 55, []), (55, .aload_n 0, 56, []), (56, .iload_n 1, 57, []), (57, .iload_n 2, 58, []), (58, .iload_n 3, 59, []), (59, .invokevirtual 99, 62, []), (62, .iconst 1, 63, [1]), (63, .ireturn, 64, [])])]
theorem pk_X5_walkerTold : pgk cX5_walkerTold P_X5_walkerTold := by unfold pgk pk; decide +kernel
def P_X5_roundsTold : PG := [(23, [(0, .aload_n 0, 1, []), (1, .invokevirtual 270, 4, []), (4, .pop, 5, []), (5, .aload_n 0, 6, []), (6, .getfield 9, 9, []), (9, .iconst 5, 10, [5]), (10, .iaload, 11, []), (11, .bipush 12, 13, [12]), (13, .if_icmp .ne 8, 16, [21]), (16, .aload_n 0, 17, []), (17, .invokevirtual 226, 20, []), (20, .ireturn, 21, []), (21, .aload_n 0, 22, []), (22, .iconst 0, 23, [0])]), (47, [(23, .bipush 24, 25, [24]), (25, .invokevirtual 260, 28, []), (28, .ifCond .ne 5, 31, [33]), (31, .iconst 0, 32, [0]), (32, .ireturn, 33, []), (33, .aload_n 0, 34, []), (34, .getfield 9, 37, []), (37, .bipush 7, 39, [7]), (39, .aload_n 0, 40, []), (40, .getfield 9, 43, []), (43, .iconst 5, 44, [5]), (44, .iaload, 45, []), (45, .iadd, 46, []), (46, .aload_n 0, 47, [])]), (69, [(47, .getfield 245, 50, []), (50, .iastore, 51, []), (51, .aload_n 0, 52, []), (52, .getfield 9, 55, []), (55, .iconst 5, 56, [5]), (56, .dup2, 57, []), (57, .iaload, 58, []), (58, .iconst 1, 59, [1]), (59, .iadd, 60, []), (60, .iastore, 61, []), (61, .aload_n 0, 62, []), (62, .invokevirtual 273, 65, []), (65, .ifCond .ne (-60), 68, [5]), (68, .iconst 1, 69, [1])]), (70, [(69, .ireturn, 70, [])])]
theorem pk_X5_roundsTold : pgk cX5_roundsTold P_X5_roundsTold := by unfold pgk pk; decide +kernel
def P_X5_item : PG := [(26, [(0, .iconst 0, 1, [0]), (1, .istore_n 1, 2, []), (2, .iload_n 1, 3, []), (3, .bipush 6, 5, [6]), (5, .if_icmp .ge 54, 8, [59]), (8, .aload_n 0, 9, []), (9, .iload_n 1, 10, []), (10, .invokestatic 276, 13, []), (13, .invokevirtual 220, 16, []), (16, .ifCond .eq 20, 19, [36]), (19, .aload_n 0, 20, []), (20, .getfield 9, 23, []), (23, .bipush 6, 25, [6]), (25, .iaload, 26, [])]), (53, [(26, .bipush 8, 28, [8]), (28, .if_icmp .ne 8, 31, [36]), (31, .aload_n 0, 32, []), (32, .invokevirtual 226, 35, []), (35, .ireturn, 36, []), (36, .aload_n 0, 37, []), (37, .iload_n 1, 38, []), (38, .invokestatic 276, 41, []), (41, .invokevirtual 224, 44, []), (44, .ifCond .eq 9, 47, [53]), (47, .aload_n 0, 48, []), (48, .iload_n 1, 49, []), (49, .invokevirtual 280, 52, []), (52, .ireturn, 53, [])]), (85, [(53, .iinc 1 1, 56, [1]), (56, .goto (-54), 59, [2]), (59, .aload_n 0, 60, []), (60, .ldc_w 283, 63, []), (63, .invokevirtual 224, 66, []), (66, .ifCond .eq 9, 69, [75]), (69, .aload_n 0, 70, []), (70, .iconst 1, 71, [1]), (71, .invokevirtual 285, 74, []), (74, .ireturn, 75, []), (75, .aload_n 0, 76, []), (76, .ldc_w 288, 79, []), (79, .invokevirtual 224, 82, []), (82, .ifCond .eq 9, 85, [91])]), (113, [(85, .aload_n 0, 86, []), (86, .iconst 0, 87, [0]), (87, .invokevirtual 285, 90, []), (90, .ireturn, 91, []), (91, .aload_n 0, 92, []), (92, .ldc_w 290, 95, []), (95, .invokevirtual 224, 98, []), (98, .ifCond .eq 8, 101, [106]), (101, .aload_n 0, 102, []), (102, .invokevirtual 292, 105, []), (105, .ireturn, 106, []), (106, .aload_n 0, 107, []), (107, .ldc_w 295, 110, []), (110, .invokevirtual 224, 113, [])]), (141, [(113, .ifCond .eq 11, 116, [124]), (116, .aload_n 0, 117, []), (117, .bipush 44, 119, [44]), (119, .iconst 1, 120, [1]), (120, .invokevirtual 297, 123, []), (123, .ireturn, 124, []), (124, .aload_n 0, 125, []), (125, .ldc_w 300, 128, []), (128, .invokevirtual 224, 131, []), (131, .ifCond .eq 11, 134, [142]), (134, .aload_n 0, 135, []), (135, .bipush 69, 137, [69]), (137, .iconst 1, 138, [1]), (138, .invokevirtual 297, 141, [])]), (170, [(141, .ireturn, 142, []), (142, .aload_n 0, 143, []), (143, .ldc_w 302, 146, []), (146, .invokevirtual 224, 149, []), (149, .ifCond .eq 11, 152, [160]), (152, .aload_n 0, 153, []), (153, .bipush 69, 155, [69]), (155, .iconst 0, 156, [0]), (156, .invokevirtual 297, 159, []), (159, .ireturn, 160, []), (160, .aload_n 0, 161, []), (161, .ldc_w 304, 164, []), (164, .invokevirtual 224, 167, []), (167, .ifCond .eq 26, 170, [193])]), (192, [(170, .aload_n 0, 171, []), (171, .iconst 0, 172, [0]), (172, .iconst 4, 173, [4]), (173, .invokevirtual 260, 176, []), (176, .ifCond .ne 5, 179, [181]), (179, .iconst 0, 180, [0]), (180, .ireturn, 181, []), (181, .aload_n 0, 182, []), (182, .getfield 9, 185, []), (185, .iconst 2, 186, [2]), (186, .aload_n 0, 187, []), (187, .getfield 245, 190, []), (190, .iastore, 191, []), (191, .iconst 1, 192, [1])]), (216, [(192, .ireturn, 193, []), (193, .aload_n 0, 194, []), (194, .ldc_w 306, 197, []), (197, .invokevirtual 265, 200, []), (200, .ifCond .eq 14, 203, [214]), (203, .aload_n 0, 204, []), (204, .invokevirtual 308, 207, []), (207, .ifCond .eq 7, 210, [214]), (210, .iconst 1, 211, [1]), (211, .goto 4, 214, [215]), (214, .iconst 0, 215, [0]), (215, .ireturn, 216, [])])]
theorem pk_X5_item : pgk cX5_item P_X5_item := by unfold pgk pk; decide +kernel
def P_X5_ward : PG := [(24, [(0, .aload_n 0, 1, []), (1, .iconst 0, 2, [0]), (2, .putfield 193, 5, []), (5, .aload_n 0, 6, []), (6, .iconst (-1), 7, [1, 1]), (7, .putfield 199, 10, []), (10, .aload_n 0, 11, []), (11, .getfield 9, 14, []), (14, .aload_n 0, 15, []), (15, .getfield 19, 18, []), (18, .invokestatic 164, 21, []), (21, .iconst 0, 22, [0]), (22, .istore_n 1, 23, []), (23, .iconst 1, 24, [1])]), (53, [(24, .istore_n 2, 25, []), (25, .iload_n 2, 26, []), (26, .ifCond .eq 57, 29, [83]), (29, .aload_n 0, 30, []), (30, .invokevirtual 311, 33, []), (33, .ifCond .eq 50, 36, [83]), (36, .iinc 1 1, 39, [1]), (39, .aload_n 0, 40, []), (40, .invokevirtual 205, 43, []), (43, .aload_n 0, 44, []), (44, .aload_n 0, 45, []), (45, .getfield 193, 48, []), (48, .invokevirtual 196, 51, []), (51, .bipush 59, 53, [59])]), (77, [(53, .if_icmp .ne 7, 56, [60]), (56, .iconst 1, 57, [1]), (57, .goto 4, 60, [61]), (60, .iconst 0, 61, [0]), (61, .istore_n 2, 62, []), (62, .aload_n 0, 63, []), (63, .dup, 64, []), (64, .getfield 193, 67, []), (67, .iload_n 2, 68, []), (68, .ifCond .eq 7, 71, [75]), (71, .iconst 1, 72, [1]), (72, .goto 4, 75, [76]), (75, .iconst 0, 76, [0]), (76, .iadd, 77, [])]), (107, [(77, .putfield 193, 80, []), (80, .goto (-55), 83, [25]), (83, .aload_n 0, 84, []), (84, .getfield 199, 87, []), (87, .ifCond .ge 19, 90, [106]), (90, .aload_n 0, 91, []), (91, .getfield 193, 94, []), (94, .aload_n 0, 95, []), (95, .getfield 189, 98, []), (98, .if_icmp .ge 8, 101, [106]), (101, .aload_n 0, 102, []), (102, .invokevirtual 226, 105, []), (105, .pop, 106, []), (106, .aload_n 0, 107, [])]), (135, [(107, .iconst 0, 108, [0]), (108, .putfield 189, 111, []), (111, .aload_n 0, 112, []), (112, .getfield 199, 115, []), (115, .ifCond .lt 21, 118, [136]), (118, .aload_n 0, 119, []), (119, .getfield 19, 122, []), (122, .aload_n 0, 123, []), (123, .getfield 9, 126, []), (126, .invokestatic 164, 129, []), (129, .iconst (-1), 130, [1, 1]), (130, .aload_n 0, 131, []), (131, .getfield 199, 134, []), (134, .isub, 135, [])]), (138, [(135, .ireturn, 136, []), (136, .iload_n 1, 137, []), (137, .ireturn, 138, [])])]
theorem pk_X5_ward : pgk cX5_ward P_X5_ward := by unfold pgk pk; decide +kernel
def P_X5_isSheet : PG := [(7, [(0, .iload_n 0, 1, []), (1, .iconst 0, 2, [0]), (2, .iconst 3, 3, [3]), (3, .invokestatic 55, 6, []), (6, .ireturn, 7, [])])]
theorem pk_X5_isSheet : pgk cX5_isSheet P_X5_isSheet := by unfold pgk pk; decide +kernel
def P_X5_sheet : PG := [(29, [(0, .iload_n 1, 1, []), (1, .invokestatic 314, 4, []), (4, .ifCond .eq 25, 7, [29]), (7, .iload_n 2, 8, []), (8, .ifCond .eq 27, 11, [35]), (11, .iload_n 2, 12, []), (12, .bipush 8, 14, [8]), (14, .if_icmp .eq 21, 17, [35]), (17, .iload_n 2, 18, []), (18, .bipush 16, 20, [16]), (20, .if_icmp .eq 15, 23, [35]), (23, .iload_n 2, 24, []), (24, .bipush 64, 26, [64]), (26, .if_icmp .eq 9, 29, [35])]), (53, [(29, .aload_n 0, 30, []), (30, .iconst 0, 31, [0]), (31, .invokevirtual 79, 34, []), (34, .ireturn, 35, []), (35, .iload_n 3, 36, []), (36, .ifCond .ge 10, 39, [46]), (39, .aload_n 0, 40, []), (40, .bipush 6, 42, [6]), (42, .invokevirtual 79, 45, []), (45, .ireturn, 46, []), (46, .iload_n 3, 47, []), (47, .bipush 40, 49, [40]), (49, .if_icmp .le 9, 52, [58]), (52, .aload_n 0, 53, [])]), (75, [(53, .iconst 0, 54, [0]), (54, .invokevirtual 79, 57, []), (57, .ireturn, 58, []), (58, .aload_n 0, 59, []), (59, .getfield 41, 62, []), (62, .iload_n 1, 63, []), (63, .iload_n 2, 64, []), (64, .iastore, 65, []), (65, .aload_n 0, 66, []), (66, .getfield 44, 69, []), (69, .iload_n 1, 70, []), (70, .iload_n 2, 71, []), (71, .ifCond .ne 7, 74, [78]), (74, .iconst 0, 75, [0])]), (100, [(75, .goto 4, 78, [79]), (78, .iload_n 3, 79, []), (79, .iastore, 80, []), (80, .iconst 0, 81, [0]), (81, .istore 4, 83, []), (83, .iload 4, 85, []), (85, .bipush 40, 87, [40]), (87, .if_icmp .ge 22, 90, [109]), (90, .aload_n 0, 91, []), (91, .getfield 47, 94, []), (94, .bipush 40, 96, [40]), (96, .iload_n 1, 97, []), (97, .imul, 98, []), (98, .iload 4, 100, [])]), (116, [(100, .iadd, 101, []), (101, .lconst 0, 102, []), (102, .lastore, 103, []), (103, .iinc 4 1, 106, [1]), (106, .goto (-23), 109, [83]), (109, .aload_n 0, 110, []), (110, .getfield 44, 113, []), (113, .iload_n 1, 114, []), (114, .iaload, 115, []), (115, .ireturn, 116, [])])]
theorem pk_X5_sheet : pgk cX5_sheet P_X5_sheet := by unfold pgk pk; decide +kernel
def P_X5_writes : PG := [(22, [(0, .aload_n 0, 1, []), (1, .getfield 47, 4, []), (4, .bipush 40, 6, [40]), (6, .iload_n 1, 7, []), (7, .imul, 8, []), (8, .iload_n 2, 9, []), (9, .iadd, 10, []), (10, .aload_n 0, 11, []), (11, .getfield 41, 14, []), (14, .iload_n 1, 15, []), (15, .iaload, 16, []), (16, .bipush 8, 18, [8]), (18, .if_icmp .ne 10, 21, [28]), (21, .lload_n 3, 22, [])]), (43, [(22, .l2i, 23, []), (23, .i2b, 24, []), (24, .i2l, 25, []), (25, .goto 22, 28, [47]), (28, .aload_n 0, 29, []), (29, .getfield 41, 32, []), (32, .iload_n 1, 33, []), (33, .iaload, 34, []), (34, .bipush 16, 36, [16]), (36, .if_icmp .ne 10, 39, [46]), (39, .lload_n 3, 40, []), (40, .l2i, 41, []), (41, .i2s, 42, []), (42, .i2l, 43, [])]), (49, [(43, .goto 4, 46, [47]), (46, .lload_n 3, 47, []), (47, .lastore, 48, []), (48, .return_, 49, [])])]
theorem pk_X5_writes : pgk cX5_writes P_X5_writes := by unfold pgk pk; decide +kernel
def P_X5_write : PG := [(24, [(0, .iload_n 1, 1, []), (1, .invokestatic 314, 4, []), (4, .ifCond .ne 10, 7, [14]), (7, .aload_n 0, 8, []), (8, .iconst 0, 9, [0]), (9, .invokevirtual 79, 12, []), (12, .i2l, 13, []), (13, .lreturn, 14, []), (14, .aload_n 0, 15, []), (15, .getfield 41, 18, []), (18, .iload_n 1, 19, []), (19, .iaload, 20, []), (20, .ifCond .ne 10, 23, [30]), (23, .aload_n 0, 24, [])]), (46, [(24, .iconst 5, 25, [5]), (25, .invokevirtual 79, 28, []), (28, .i2l, 29, []), (29, .lreturn, 30, []), (30, .iload_n 2, 31, []), (31, .iconst 0, 32, [0]), (32, .aload_n 0, 33, []), (33, .getfield 44, 36, []), (36, .iload_n 1, 37, []), (37, .iaload, 38, []), (38, .iconst 1, 39, [1]), (39, .isub, 40, []), (40, .invokestatic 55, 43, []), (43, .ifCond .ne 10, 46, [53])]), (66, [(46, .aload_n 0, 47, []), (47, .iconst 0, 48, [0]), (48, .invokevirtual 79, 51, []), (51, .i2l, 52, []), (52, .lreturn, 53, []), (53, .aload_n 0, 54, []), (54, .getfield 47, 57, []), (57, .bipush 40, 59, [40]), (59, .iload_n 1, 60, []), (60, .imul, 61, []), (61, .iload_n 2, 62, []), (62, .iadd, 63, []), (63, .laload, 64, []), (64, .lstore 5, 66, [])]), (76, [(66, .aload_n 0, 67, []), (67, .iload_n 1, 68, []), (68, .iload_n 2, 69, []), (69, .lload_n 3, 70, []), (70, .invokevirtual 317, 73, []), (73, .lload 5, 75, []), (75, .lreturn, 76, [])])]
theorem pk_X5_write : pgk cX5_write P_X5_write := by unfold pgk pk; decide +kernel
def P_X5_copy : PG := [(26, [(0, .iload_n 1, 1, []), (1, .invokestatic 314, 4, []), (4, .ifCond .eq 10, 7, [14]), (7, .iload_n 3, 8, []), (8, .invokestatic 314, 11, []), (11, .ifCond .ne 9, 14, [20]), (14, .aload_n 0, 15, []), (15, .iconst 0, 16, [0]), (16, .invokevirtual 79, 19, []), (19, .ireturn, 20, []), (20, .aload_n 0, 21, []), (21, .getfield 41, 24, []), (24, .iload_n 1, 25, []), (25, .iaload, 26, [])]), (50, [(26, .ifCond .eq 12, 29, [38]), (29, .aload_n 0, 30, []), (30, .getfield 41, 33, []), (33, .iload_n 3, 34, []), (34, .iaload, 35, []), (35, .ifCond .ne 9, 38, [44]), (38, .aload_n 0, 39, []), (39, .iconst 5, 40, [5]), (40, .invokevirtual 79, 43, []), (43, .ireturn, 44, []), (44, .aload_n 0, 45, []), (45, .getfield 41, 48, []), (48, .iload_n 1, 49, []), (49, .iaload, 50, [])]), (76, [(50, .aload_n 0, 51, []), (51, .getfield 41, 54, []), (54, .iload_n 3, 55, []), (55, .iaload, 56, []), (56, .if_icmp .eq 9, 59, [65]), (59, .aload_n 0, 60, []), (60, .iconst 2, 61, [2]), (61, .invokevirtual 79, 64, []), (64, .ireturn, 65, []), (65, .iload 5, 67, []), (67, .ifCond .lt 39, 70, [106]), (70, .iload_n 2, 71, []), (71, .ifCond .lt 35, 74, [106]), (74, .iload 4, 76, [])]), (100, [(76, .ifCond .lt 30, 79, [106]), (79, .iload_n 2, 80, []), (80, .aload_n 0, 81, []), (81, .getfield 44, 84, []), (84, .iload_n 1, 85, []), (85, .iaload, 86, []), (86, .iload 5, 88, []), (88, .isub, 89, []), (89, .if_icmp .gt 17, 92, [106]), (92, .iload 4, 94, []), (94, .aload_n 0, 95, []), (95, .getfield 44, 98, []), (98, .iload_n 3, 99, []), (99, .iaload, 100, [])]), (126, [(100, .iload 5, 102, []), (102, .isub, 103, []), (103, .if_icmp .le 9, 106, [112]), (106, .aload_n 0, 107, []), (107, .iconst 0, 108, [0]), (108, .invokevirtual 79, 111, []), (111, .ireturn, 112, []), (112, .iconst 0, 113, [0]), (113, .istore 6, 115, []), (115, .iload 6, 117, []), (117, .iload 5, 119, []), (119, .if_icmp .ge 30, 122, [149]), (122, .aload_n 0, 123, []), (123, .getfield 50, 126, [])]), (149, [(126, .iload 6, 128, []), (128, .aload_n 0, 129, []), (129, .getfield 47, 132, []), (132, .bipush 40, 134, [40]), (134, .iload_n 1, 135, []), (135, .imul, 136, []), (136, .iload_n 2, 137, []), (137, .iadd, 138, []), (138, .iload 6, 140, []), (140, .iadd, 141, []), (141, .laload, 142, []), (142, .lastore, 143, []), (143, .iinc 6 1, 146, [1]), (146, .goto (-31), 149, [115])]), (173, [(149, .iconst 0, 150, [0]), (150, .istore 6, 152, []), (152, .iload 6, 154, []), (154, .iload 5, 156, []), (156, .if_icmp .ge 31, 159, [187]), (159, .aload_n 0, 160, []), (160, .getfield 47, 163, []), (163, .bipush 40, 165, [40]), (165, .iload_n 3, 166, []), (166, .imul, 167, []), (167, .iload 4, 169, []), (169, .iadd, 170, []), (170, .iload 6, 172, []), (172, .iadd, 173, [])]), (190, [(173, .aload_n 0, 174, []), (174, .getfield 50, 177, []), (177, .iload 6, 179, []), (179, .laload, 180, []), (180, .lastore, 181, []), (181, .iinc 6 1, 184, [1]), (184, .goto (-32), 187, [152]), (187, .iload 5, 189, []), (189, .ireturn, 190, [])])]
theorem pk_X5_copy : pgk cX5_copy P_X5_copy := by unfold pgk pk; decide +kernel
def P_X5_lays : PG := [(24, [(0, .iload_n 1, 1, []), (1, .invokestatic 314, 4, []), (4, .ifCond .ne 9, 7, [13]), (7, .aload_n 0, 8, []), (8, .iconst 0, 9, [0]), (9, .invokevirtual 79, 12, []), (12, .ireturn, 13, []), (13, .aload_n 0, 14, []), (14, .getfield 41, 17, []), (17, .iload_n 1, 18, []), (18, .iaload, 19, []), (19, .ifCond .ne 9, 22, [28]), (22, .aload_n 0, 23, []), (23, .iconst 5, 24, [5])]), (45, [(24, .invokevirtual 79, 27, []), (27, .ireturn, 28, []), (28, .iconst 0, 29, [0]), (29, .istore_n 2, 30, []), (30, .iconst 0, 31, [0]), (31, .istore_n 3, 32, []), (32, .iload_n 3, 33, []), (33, .aload_n 0, 34, []), (34, .getfield 44, 37, []), (37, .iload_n 1, 38, []), (38, .iaload, 39, []), (39, .if_icmp .ge 59, 42, [98]), (42, .iload_n 3, 43, []), (43, .bipush 25, 45, [25])]), (68, [(45, .if_icmp .ge 53, 48, [98]), (48, .aload_n 0, 49, []), (49, .getfield 47, 52, []), (52, .bipush 40, 54, [40]), (54, .iload_n 1, 55, []), (55, .imul, 56, []), (56, .iload_n 3, 57, []), (57, .iadd, 58, []), (58, .laload, 59, []), (59, .lstore 4, 61, []), (61, .lload 4, 63, []), (63, .lconst 0, 64, []), (64, .lcmp, 65, []), (65, .ifCond .lt 27, 68, [92])]), (95, [(68, .lload 4, 70, []), (70, .ldc2_w 321, 73, []), (73, .lcmp, 74, []), (74, .ifCond .gt 18, 77, [92]), (77, .aload_n 0, 78, []), (78, .getfield 9, 81, []), (81, .bipush 19, 83, [19]), (83, .iload_n 3, 84, []), (84, .iadd, 85, []), (85, .lload 4, 87, []), (87, .l2i, 88, []), (88, .iastore, 89, []), (89, .iinc 2 1, 92, [1]), (92, .iinc 3 1, 95, [1])]), (100, [(95, .goto (-63), 98, [32]), (98, .iload_n 2, 99, []), (99, .ireturn, 100, [])])]
theorem pk_X5_lays : pgk cX5_lays P_X5_lays := by unfold pgk pk; decide +kernel
def P_X5_track : PG := [(24, [(0, .iload_n 1, 1, []), (1, .invokestatic 314, 4, []), (4, .ifCond .ne 9, 7, [13]), (7, .aload_n 0, 8, []), (8, .iconst 0, 9, [0]), (9, .invokevirtual 79, 12, []), (12, .ireturn, 13, []), (13, .aload_n 0, 14, []), (14, .getfield 41, 17, []), (17, .iload_n 1, 18, []), (18, .iaload, 19, []), (19, .ifCond .ne 9, 22, [28]), (22, .aload_n 0, 23, []), (23, .iconst 5, 24, [5])]), (52, [(24, .invokevirtual 79, 27, []), (27, .ireturn, 28, []), (28, .aload_n 0, 29, []), (29, .iload_n 2, 30, []), (30, .invokevirtual 107, 33, []), (33, .ifCond .ne 9, 36, [42]), (36, .aload_n 0, 37, []), (37, .iconst 0, 38, [0]), (38, .invokevirtual 79, 41, []), (41, .ireturn, 42, []), (42, .aload_n 0, 43, []), (43, .sipush 500, 46, [500]), (46, .invokevirtual 148, 49, []), (49, .ifCond .eq 9, 52, [58])]), (76, [(52, .aload_n 0, 53, []), (53, .iconst 4, 54, [4]), (54, .invokevirtual 79, 57, []), (57, .ireturn, 58, []), (58, .aload_n 0, 59, []), (59, .getfield 9, 62, []), (62, .aload_n 0, 63, []), (63, .getfield 16, 66, []), (66, .invokestatic 164, 69, []), (69, .iconst 0, 70, [0]), (70, .istore_n 3, 71, []), (71, .iload_n 3, 72, []), (72, .aload_n 0, 73, []), (73, .getfield 44, 76, [])]), (98, [(76, .iload_n 1, 77, []), (77, .iaload, 78, []), (78, .if_icmp .ge 26, 81, [104]), (81, .aload_n 0, 82, []), (82, .iload_n 1, 83, []), (83, .iload_n 3, 84, []), (84, .aload_n 0, 85, []), (85, .iload_n 2, 86, []), (86, .iconst 2, 87, [2]), (87, .invokevirtual 59, 90, []), (90, .i2l, 91, []), (91, .invokevirtual 317, 94, []), (94, .aload_n 0, 95, []), (95, .invokevirtual 145, 98, [])]), (122, [(98, .iinc 3 1, 101, [1]), (101, .goto (-30), 104, [71]), (104, .aload_n 0, 105, []), (105, .getfield 16, 108, []), (108, .aload_n 0, 109, []), (109, .getfield 9, 112, []), (112, .invokestatic 164, 115, []), (115, .aload_n 0, 116, []), (116, .getfield 44, 119, []), (119, .iload_n 1, 120, []), (120, .iaload, 121, []), (121, .ireturn, 122, [])])]
theorem pk_X5_track : pgk cX5_track P_X5_track := by unfold pgk pk; decide +kernel
def P_X5_whose : PG := [(24, [(0, .iload_n 1, 1, []), (1, .invokestatic 314, 4, []), (4, .ifCond .ne 9, 7, [13]), (7, .aload_n 0, 8, []), (8, .iconst 0, 9, [0]), (9, .invokevirtual 79, 12, []), (12, .ireturn, 13, []), (13, .aload_n 0, 14, []), (14, .getfield 41, 17, []), (17, .iload_n 1, 18, []), (18, .iaload, 19, []), (19, .ifCond .ne 9, 22, [28]), (22, .aload_n 0, 23, []), (23, .iconst 5, 24, [5])]), (52, [(24, .invokevirtual 79, 27, []), (27, .ireturn, 28, []), (28, .aload_n 0, 29, []), (29, .sipush 500, 32, [500]), (32, .invokevirtual 148, 35, []), (35, .ifCond .eq 9, 38, [44]), (38, .aload_n 0, 39, []), (39, .iconst 4, 40, [4]), (40, .invokevirtual 79, 43, []), (43, .ireturn, 44, []), (44, .aload_n 0, 45, []), (45, .getfield 9, 48, []), (48, .aload_n 0, 49, []), (49, .getfield 16, 52, [])]), (71, [(52, .invokestatic 164, 55, []), (55, .iconst 1, 56, [1]), (56, .aload_n 0, 57, []), (57, .getfield 9, 60, []), (60, .bipush 6, 62, [6]), (62, .iaload, 63, []), (63, .ishl, 64, []), (64, .iconst 1, 65, [1]), (65, .isub, 66, []), (66, .istore_n 2, 67, []), (67, .iconst 0, 68, [0]), (68, .istore_n 3, 69, []), (69, .iload_n 3, 70, []), (70, .aload_n 0, 71, [])]), (96, [(71, .getfield 44, 74, []), (74, .iload_n 1, 75, []), (75, .iaload, 76, []), (76, .if_icmp .ge 70, 79, [146]), (79, .iconst 0, 80, [0]), (80, .istore 4, 82, []), (82, .iload 4, 84, []), (84, .aload_n 0, 85, []), (85, .getfield 9, 88, []), (88, .bipush 6, 90, [6]), (90, .iaload, 91, []), (91, .if_icmp .ge 45, 94, [136]), (94, .iload_n 2, 95, []), (95, .aload_n 0, 96, [])]), (118, [(96, .getfield 47, 99, []), (99, .bipush 40, 101, [40]), (101, .iload_n 1, 102, []), (102, .imul, 103, []), (103, .iload_n 3, 104, []), (104, .iadd, 105, []), (105, .laload, 106, []), (106, .aload_n 0, 107, []), (107, .iload 4, 109, []), (109, .iconst 2, 110, [2]), (110, .invokevirtual 59, 113, []), (113, .i2l, 114, []), (114, .lcmp, 115, []), (115, .ifCond .ne 7, 118, [122])]), (143, [(118, .iconst (-1), 119, [1, 1]), (119, .goto 9, 122, [128]), (122, .iconst 1, 123, [1]), (123, .iload 4, 125, []), (125, .ishl, 126, []), (126, .iconst (-1), 127, [1, 1]), (127, .ixor, 128, []), (128, .iand, 129, []), (129, .istore_n 2, 130, []), (130, .iinc 4 1, 133, [1]), (133, .goto (-51), 136, [82]), (136, .aload_n 0, 137, []), (137, .invokevirtual 145, 140, []), (140, .iinc 3 1, 143, [1])]), (170, [(143, .goto (-74), 146, [69]), (146, .aload_n 0, 147, []), (147, .getfield 16, 150, []), (150, .aload_n 0, 151, []), (151, .getfield 9, 154, []), (154, .invokestatic 164, 157, []), (157, .iconst 0, 158, [0]), (158, .istore_n 3, 159, []), (159, .iload_n 3, 160, []), (160, .aload_n 0, 161, []), (161, .getfield 9, 164, []), (164, .bipush 6, 166, [6]), (166, .iaload, 167, []), (167, .if_icmp .ge 17, 170, [184])]), (195, [(170, .iload_n 2, 171, []), (171, .iload_n 3, 172, []), (172, .ishr, 173, []), (173, .iconst 1, 174, [1]), (174, .iand, 175, []), (175, .ifCond .ne 9, 178, [184]), (178, .iinc 3 1, 181, [1]), (181, .goto (-22), 184, [159]), (184, .iload_n 3, 185, []), (185, .aload_n 0, 186, []), (186, .getfield 9, 189, []), (189, .bipush 6, 191, [6]), (191, .iaload, 192, []), (192, .if_icmp .ge 7, 195, [199])]), (205, [(195, .iload_n 3, 196, []), (196, .goto 8, 199, [204]), (199, .aload_n 0, 200, []), (200, .iconst 3, 201, [3]), (201, .invokevirtual 79, 204, []), (204, .ireturn, 205, [])])]
theorem pk_X5_whose : pgk cX5_whose P_X5_whose := by unfold pgk pk; decide +kernel
def P_X5_image : PG := [(18, [(0, .aload_n 0, 1, []), (1, .getfield 9, 4, []), (4, .aload_n 0, 5, []), (5, .getfield 13, 8, []), (8, .invokestatic 164, 11, []), (11, .aload_n 0, 12, []), (12, .iconst 1, 13, [1]), (13, .putfield 323, 16, []), (16, .iconst 1, 17, [1]), (17, .ireturn, 18, [])])]
theorem pk_X5_image : pgk cX5_image P_X5_image := by unfold pgk pk; decide +kernel
def P_X5_undo : PG := [(28, [(0, .aload_n 0, 1, []), (1, .getfield 323, 4, []), (4, .ifCond .ne 9, 7, [13]), (7, .aload_n 0, 8, []), (8, .iconst 3, 9, [3]), (9, .invokevirtual 79, 12, []), (12, .ireturn, 13, []), (13, .aload_n 0, 14, []), (14, .getfield 13, 17, []), (17, .aload_n 0, 18, []), (18, .getfield 9, 21, []), (21, .invokestatic 164, 24, []), (24, .aload_n 0, 25, []), (25, .getfield 9, 28, [])]), (32, [(28, .bipush 6, 30, [6]), (30, .iaload, 31, []), (31, .ireturn, 32, [])])]
theorem pk_X5_undo : pgk cX5_undo P_X5_undo := by unfold pgk pk; decide +kernel
def P_X5_tear : PG := [(20, [(0, .aload_n 0, 1, []), (1, .getfield 323, 4, []), (4, .ifCond .eq 7, 7, [11]), (7, .iconst 1, 8, [1]), (8, .goto 4, 11, [12]), (11, .iconst 0, 12, [0]), (12, .istore_n 1, 13, []), (13, .aload_n 0, 14, []), (14, .iconst 0, 15, [0]), (15, .putfield 323, 18, []), (18, .iload_n 1, 19, []), (19, .ireturn, 20, [])])]
theorem pk_X5_tear : pgk cX5_tear P_X5_tear := by unfold pgk pk; decide +kernel
def P_X5_sumOf : PG := [(21, [(0, .iconst 0, 1, [0]), (1, .istore_n 3, 2, []), (2, .iconst 0, 3, [0]), (3, .istore 4, 5, []), (5, .iload 4, 7, []), (7, .iload_n 2, 8, []), (8, .if_icmp .ge 21, 11, [29]), (11, .iload_n 3, 12, []), (12, .aload_n 0, 13, []), (13, .getfield 9, 16, []), (16, .iload_n 1, 17, []), (17, .iload 4, 19, []), (19, .iadd, 20, []), (20, .iaload, 21, [])]), (31, [(21, .iadd, 22, []), (22, .istore_n 3, 23, []), (23, .iinc 4 1, 26, [1]), (26, .goto (-21), 29, [5]), (29, .iload_n 3, 30, []), (30, .ireturn, 31, [])])]
theorem pk_X5_sumOf : pgk cX5_sumOf P_X5_sumOf := by unfold pgk pk; decide +kernel
def P_X5_count : PG := [(65, [(0, .iload_n 1, 1, []), (1, .tableswitch 106 0 6 #[43, 51, 69, 78, 87, 94, 99], 44, [107, 44, 52, 70, 79, 88, 95, 100]), (44, .aload_n 0, 45, []), (45, .getfield 9, 48, []), (48, .bipush 6, 50, [6]), (50, .iaload, 51, []), (51, .ireturn, 52, []), (52, .aload_n 0, 53, []), (53, .bipush 94, 55, [94]), (55, .bipush 25, 57, [25]), (57, .invokevirtual 327, 60, []), (60, .aload_n 0, 61, []), (61, .bipush 119, 63, [119]), (63, .bipush 25, 65, [25])]), (89, [(65, .invokevirtual 327, 68, []), (68, .iadd, 69, []), (69, .ireturn, 70, []), (70, .aload_n 0, 71, []), (71, .bipush 44, 73, [44]), (73, .bipush 25, 75, [25]), (75, .invokevirtual 327, 78, []), (78, .ireturn, 79, []), (79, .aload_n 0, 80, []), (80, .bipush 69, 82, [69]), (82, .bipush 25, 84, [25]), (84, .invokevirtual 327, 87, []), (87, .ireturn, 88, []), (88, .aload_n 0, 89, [])]), (109, [(89, .getfield 9, 92, []), (92, .iconst 5, 93, [5]), (93, .iaload, 94, []), (94, .ireturn, 95, []), (95, .aload_n 0, 96, []), (96, .getfield 189, 99, []), (99, .ireturn, 100, []), (100, .aload_n 0, 101, []), (101, .getfield 9, 104, []), (104, .iconst 1, 105, [1]), (105, .iaload, 106, []), (106, .ireturn, 107, []), (107, .aload_n 0, 108, []), (108, .iconst 0, 109, [0])]), (113, [(109, .invokevirtual 79, 112, []), (112, .ireturn, 113, [])])]
theorem pk_X5_count : pgk cX5_count P_X5_count := by unfold pgk pk; decide +kernel
def P_X5_status : PG := [(21, [(0, .iload_n 1, 1, []), (1, .iconst (-1), 2, [1, 1]), (2, .bipush 6, 4, [6]), (4, .invokestatic 55, 7, []), (7, .ifCond .ne 9, 10, [16]), (10, .aload_n 0, 11, []), (11, .iconst 0, 12, [0]), (12, .invokevirtual 79, 15, []), (15, .ireturn, 16, []), (16, .iconst 0, 17, [0]), (17, .istore_n 2, 18, []), (18, .iconst 0, 19, [0]), (19, .istore_n 3, 20, []), (20, .iload_n 3, 21, [])]), (46, [(21, .bipush 7, 23, [7]), (23, .if_icmp .ge 32, 26, [55]), (26, .iload_n 2, 27, []), (27, .iload_n 1, 28, []), (28, .iconst (-1), 29, [1, 1]), (29, .if_icmp .eq 8, 32, [37]), (32, .iload_n 1, 33, []), (33, .iload_n 3, 34, []), (34, .if_icmp .ne 12, 37, [46]), (37, .aload_n 0, 38, []), (38, .getfield 22, 41, []), (41, .iload_n 3, 42, []), (42, .iaload, 43, []), (43, .goto 4, 46, [47])]), (57, [(46, .iconst 0, 47, [0]), (47, .iadd, 48, []), (48, .istore_n 2, 49, []), (49, .iinc 3 1, 52, [1]), (52, .goto (-32), 55, [20]), (55, .iload_n 2, 56, []), (56, .ireturn, 57, [])])]
theorem pk_X5_status : pgk cX5_status P_X5_status := by unfold pgk pk; decide +kernel
end
section
/-! the abstract machine: values, heap, shapes -/
abbrev AV : Type := Int32 ⊕ (Int64 ⊕ ((Nat × Nat) ⊕ Nat))
abbrev HP : Type := (Nat → Nat → Int32) × (Nat → Nat → Int64)
abbrev LV : Type := List (Nat × AV)
abbrev QP : Type := Option AV → HP → Prop
abbrev SP : Type := List AV → HP → QP → Prop
abbrev GP : Type := Nat → LV → List AV → HP → Prop
abbrev vI (x : Int32) : AV := .inl x
abbrev vL (x : Int64) : AV := .inr (.inl x)
abbrev vR (k c : Nat) : AV := .inr (.inr (.inl (k, c)))
abbrev vX (n : Nat) : AV := .inr (.inr (.inr n))
def av_two : AV → Bool
  | .inr (.inl _) => true
  | _ => false
/-- a row of a cell is another one -/
def rI (hp : HP) (c : Nat) (f : Nat → Int32) : HP := (fun d => if d = c then f else hp.1 d, hp.2)
def rL (hp : HP) (c : Nat) (f : Nat → Int64) : HP := (hp.1, fun d => if d = c then f else hp.2 d)
def uI (hp : HP) (c k : Nat) (v : Int32) : HP := rI hp c (upd (hp.1 c) k v)
def uL (hp : HP) (c k : Nat) (v : Int64) : HP := rL hp c (vp_updL (hp.2 c) k v)
/-- shapes: an object (number of its class, its fields: 0 int, 1 long, 2 boolean, 3 the cell of a kind at a distance), an array (0 int, 1 long, 2 byte, 3, 4 references; length; kind and distance of what it holds) -/
def kd : Nat → (Nat × List (Nat × Nat × Nat)) ⊕ (Nat × Nat × Nat × Nat) := fun k => match k with
  | 0 => .inl (4, [(3, 1, 1), (3, 1, 13), (3, 1, 25), (2, 0, 0), (3, 3, 37), (3, 10, 39), (3, 12, 48), (3, 13, 49), (3, 13, 50), (3, 14, 51), (0, 0, 0)])
  | 1 => .inl (3, [(1, 0, 0), (3, 6, 1), (0, 0, 0), (0, 0, 0), (0, 0, 0), (0, 0, 0), (0, 0, 0), (0, 0, 0), (3, 7, 2), (0, 0, 0), (0, 0, 0), (3, 8, 3), (0, 0, 0)])
  | 2 => .inl (2, [(0, 0, 0), (0, 0, 0), (0, 0, 0), (0, 0, 0), (2, 0, 0)])
  | 3 => .inl (1, [(3, 9, 1), (0, 0, 0), (0, 0, 0), (0, 0, 0), (0, 0, 0), (0, 0, 0), (0, 0, 0)])
  | 4 => .inl (0, [(0, 0, 0), (0, 0, 0), (3, 11, 4)])
  | 5 => .inl (5, [(3, 15, 1), (3, 15, 2), (3, 15, 3), (3, 15, 4), (2, 0, 0), (3, 14, 5), (3, 16, 6), (3, 17, 7), (3, 13, 8), (3, 13, 9), (3, 18, 10), (0, 0, 0), (0, 0, 0), (0, 0, 0), (0, 0, 0), (3, 19, 11), (3, 19, 12), (3, 20, 13), (3, 11, 14)])
  | 6 => .inr (0, 25, 0, 0)
  | 7 => .inr (0, 12, 0, 0)
  | 8 => .inr (3, 8, 2, 1)
  | 9 => .inr (2, 120, 0, 0)
  | 10 => .inr (4, 4, 4, 1)
  | 11 => .inr (1, 40, 0, 0)
  | 12 => .inr (0, 40, 0, 0)
  | 13 => .inr (1, 25, 0, 0)
  | 14 => .inr (0, 7, 0, 0)
  | 15 => .inr (0, 184, 0, 0)
  | 16 => .inr (0, 50, 0, 0)
  | 17 => .inr (0, 8, 0, 0)
  | 18 => .inr (0, 120, 0, 0)
  | 19 => .inr (0, 4, 0, 0)
  | _ => .inr (1, 160, 0, 0)
def kcell : List Nat := [0, 1, 6, 7, 8, 2, 2, 2, 2, 2, 2, 2, 2, 1, 6, 7, 8, 2, 2, 2, 2, 2, 2, 2, 2, 1, 6, 7, 8, 2, 2, 2, 2, 2, 2, 2, 2, 3, 9, 10, 4, 4, 4, 4, 11, 11, 11, 11, 12, 13, 13, 14, 5, 15, 15, 15, 15, 14, 16, 17, 13, 13, 18, 19, 19, 20, 11]
def kc (c : Nat) : Nat := kcell.getD c 99
def vld : AV → Prop
  | .inr (.inr (.inl q)) => q.2 < 67 ∧ kc q.2 = q.1
  | _ => True
/-! lists that are looked up by number -/
def lk {α : Type} : List (Nat × α) → Nat → Option α
  | [], _ => none
  | (a, v) :: t, n => match Nat.beq a n with
    | true => some v
    | false => lk t n
def lk2 {α : Type} : List (Nat × List (Nat × α)) → Nat → Option α
  | [], _ => none
  | (a, l) :: t, n => match Nat.ble a n with
    | true => lk2 t n
    | false => lk l n
def nth {α : Type} : List α → Nat → Option α
  | [], _ => none
  | a :: _, 0 => some a
  | _ :: t, n + 1 => nth t n
def lvd (i : Nat) (two : Bool) : LV → LV
  | [] => []
  | q :: t => match Nat.beq q.1 i || (Nat.beq (q.1 + 1) i && av_two q.2) || (two && Nat.beq q.1 (i + 1)) with
    | true => lvd i two t
    | false => q :: lvd i two t
def tk : Nat → List AV → List AV → Option (List AV × List AV)
  | 0, st, acc => some (acc, st)
  | _ + 1, [], _ => none
  | n + 1, v :: st, acc => tk n st (v :: acc)
def wid : List AV → Nat
  | [] => 0
  | v :: t => (match av_two v with
    | true => 2
    | false => 1) + wid t
def psh (v : Option AV) (r : List AV) : List AV := match v with
  | some a => a :: r
  | none => r
def pI (st : List AV) (k : Int32 → List AV → Prop) : Prop := match st with
  | .inl x :: r => k x r
  | _ => False
def pL (st : List AV) (k : Int64 → List AV → Prop) : Prop := match st with
  | .inr (.inl x) :: r => k x r
  | _ => False
def pV (st : List AV) (k : AV → List AV → Prop) : Prop := match st with
  | v :: r => k v r
  | _ => False
def pR (st : List AV) (k : Nat → Nat → List AV → Prop) : Prop := match st with
  | .inr (.inr (.inl (a, b))) :: r => k a b r
  | _ => False
def pA (st : List AV) (k : Nat → Nat → List AV → Prop) (x : Nat → List AV → Prop) : Prop := match st with
  | .inr (.inr (.inl (a, b))) :: r => k a b r
  | .inr (.inr (.inr n)) :: r => x n r
  | _ => False
def pN (st : List AV) (k : Prop) : Prop := match st with
  | [] => k
  | _ => False
/-- what the texts hold: 16 of them -/
def tx_s : List (List Int32) := [[119, 97, 108, 107, 101, 114], [115, 108, 111, 112, 101, 114], [108, 97, 109, 112, 101, 114], [104, 111, 109, 101, 114], [119, 97, 110, 100, 101, 114, 101, 114], [109, 111, 111, 110, 101, 114], [115, 104, 117, 116], [111, 112, 101, 110], [104, 101, 105, 103, 104, 116], [108, 97, 109, 112], [114, 105, 118, 101, 114], [100, 114, 121], [109, 111, 111, 110], [114, 111, 117, 110, 100, 115], [97, 116], [119, 97, 121]]
def tx_i (m : Nat) : Nat := m / 2 % 20
def tx_n (m : Nat) : Nat := (tx_s.getD (tx_i m) []).length
def tx_b (m j : Nat) : Int32 := (tx_s.getD (tx_i m) []).getD j 0
def kab (j : Nat) : Int32 := ([-1, 0, 0, 1, 0, 2] : List Int32).getD j 0
/-- what a class links: fields (kind, number), ints, longs, texts and statics; fields of a text -/
abbrev LKS : Type := List (Nat × Nat × Nat) × List (Nat × Int32) × List (Nat × Int64) × List (Nat × AV) × List (Nat × AV) × List (Nat × Nat)
abbrev EN : Type := List (Nat × Bool × Nat × SP)
def tg1 (t : List Nat) (k : Nat → Prop) : Prop := match t with
  | [a] => k a
  | _ => False
def ld (lv : LV) (i : Nat) (k : AV → Prop) : Prop := match lk lv i with
  | some v => k v
  | none => False
def rtI (ret : Option FieldType) (v : Int32) (k : Prop) : Prop := match ret with
  | some .int => k
  | some .boolean => (v = 0 ∨ v = 1) ∧ k
  | some ty => narrow ty (.int v) = .int v ∧ k
  | none => False
def swt (x : Int32) (G : Nat → Prop) (lo hi : Int) (d : Nat) : List Nat → Int → Prop
  | [], _ => (x.toInt < lo ∨ hi < x.toInt) → G d
  | t :: ts, k => (x.toInt = k → G t) ∧ swt x G lo hi d ts (k + 1)
def gtf (hp : HP) (c j : Nat) (f : Nat × Nat × Nat) (k : AV → Prop) : Prop := match f with
  | (0, _, _) => k (vI (hp.1 c j))
  | (1, _, _) => k (vL (hp.2 c j))
  | (2, _, _) => k (vI (hp.1 c j))
  | (_, a, b) => k (vR a (c + b))
def ptf (hp : HP) (c j : Nat) (f : Nat × Nat × Nat) (v : AV) (k : HP → Prop) : Prop := match f, v with
  | (0, _, _), .inl x => k (uI hp c j x)
  | (1, _, _), .inr (.inl x) => k (uL hp c j x)
  | (2, _, _), .inl x => (x = 0 ∨ x = 1) ∧ k (uI hp c j x)
  | _, _ => False
/-- the shape of a field that an instruction links, at a cell of a kind -/
def fsh (fl : List (Nat × Nat × Nat)) (idx k : Nat) (kk : Nat → (Nat × Nat × Nat) → Prop) : Prop := match lk fl idx with
  | some (k2, j) => (match Nat.beq k k2 with
    | true => (match kd k with
      | .inl (_, fs) => (match nth fs j with
        | some f => kk j f
        | none => False)
      | .inr _ => False)
    | false => False)
  | none => False
def ash (k : Nat) (t : Nat) (kk : Nat → Prop) : Prop := match kd k with
  | .inr (a, n, _, _) => (match Nat.beq a t with
    | true => kk n
    | false => False)
  | .inl _ => False
def arf (k : Nat) (kk : Nat → Nat → Nat → Prop) : Prop := match kd k with
  | .inr (a, n, k2, d) => (match Nat.ble 3 a with
    | true => kk n k2 d
    | false => False)
  | .inl _ => False
def aln (k : Nat) (kk : Nat → Prop) : Prop := match kd k with
  | .inr (_, n, _, _) => kk n
  | .inl _ => False
def cll (E : EN) (sta : Bool) (idx : Nat) (st : List AV) (hp : HP) (k : List AV → HP → Prop) : Prop := match lk E idx with
  | some (b, n, sp) => (match (b == sta) with
    | true => (match tk n st [] with
      | some (as, r) => (match Nat.ble (wid r) 8 with
        | true => sp as hp (fun v hq => k (psh v r) hq)
        | false => False)
      | none => False)
    | false => False)
  | none => False
def csK (tg : List Nat) (d : Int) (k : Int32 → Prop) : Prop := match tg with
  | [a] => k (nI a)
  | [_, _] => k (-1)
  | _ => k (Int32.ofInt d)
def acK (tg : List Nat) (x : Int32) (d : Int) (k : Int32 → Prop) : Prop := match tg with
  | [a] => k (x + nI a)
  | [_, _] => k (x + (-1))
  | _ => k (x + Int32.ofInt d)
def rtL (ret : Option FieldType) (k : Prop) : Prop := match ret with
  | some .long => k
  | _ => False
def rtA (n : Nat) (ret : Option FieldType) (k : Prop) : Prop := match n, ret with
  | _ + 1, some (.object _) => k
  | _, _ => False
def rtV (ret : Option FieldType) (k : Prop) : Prop := match ret with
  | none => k
  | _ => False
def swg (tg : List Nat) (k : Nat → List Nat → Prop) : Prop := match tg with
  | d :: ts => k d ts
  | [] => False
def scq (sc : Option (Nat × (Nat → Int32))) (k : Nat × (Nat → Int32) → Prop) : Prop := match sc with
  | some q => k q
  | none => False
def ldI (lv : LV) (i : Nat) (k : AV → Prop) : Prop := match lk lv i with
  | some (.inl x) => k (.inl x)
  | _ => False
def ldL (lv : LV) (i : Nat) (k : AV → Prop) : Prop := match lk lv i with
  | some (.inr (.inl x)) => k (.inr (.inl x))
  | _ => False
def ldA (lv : LV) (i : Nat) (k : AV → Prop) : Prop := match lk lv i with
  | some (.inr (.inr (.inl (a, b)))) => k (.inr (.inr (.inl (a, b))))
  | some (.inr (.inr (.inr (n + 1)))) => k (.inr (.inr (.inr (n + 1))))
  | _ => False
def nb (a b : Nat) (k : Prop) : Prop := match Nat.ble (a + 1) b with
  | true => k
  | false => False
def one (v : AV) (k : Prop) : Prop := match av_two v with
  | false => k
  | true => False
def txok (m : Nat) : Prop := m % 2 = 0 ∧ (m < 32 ∨ 40 ≤ m ∧ m < 72)
def stI (K : LKS) (E : EN) (nL : Nat) (ret : Option FieldType) (sc : Option (Nat × (Nat → Int32))) (Q : QP) (G : GP) (i : Instr) (nx : Nat) (tg : List Nat) (lv : LV) (st : List AV) (hp : HP) : Prop :=
  match i with
  | .iload n => ldI lv n fun v => G nx lv (v :: st) hp
  | .iload_n n => ldI lv n.val fun v => G nx lv (v :: st) hp
  | .lload n => ldL lv n fun v => G nx lv (v :: st) hp
  | .lload_n n => ldL lv n.val fun v => G nx lv (v :: st) hp
  | .aload n => ldA lv n fun v => G nx lv (v :: st) hp
  | .aload_n n => ldA lv n.val fun v => G nx lv (v :: st) hp
  | .istore n => pI st fun x r => nb (n) nL (G nx ((n, vI x) :: lvd (n) false lv) r hp)
  | .istore_n n => pI st fun x r => nb (n.val) nL (G nx ((n.val, vI x) :: lvd (n.val) false lv) r hp)
  | .lstore n => pL st fun x r => nb (n + 1) nL (G nx ((n, vL x) :: lvd (n) true lv) r hp)
  | .lstore_n n => pL st fun x r => nb (n.val + 1) nL (G nx ((n.val, vL x) :: lvd (n.val) true lv) r hp)
  | .astore n => pA st (fun k c r => nb (n) nL (G nx ((n, vR k c) :: lvd (n) false lv) r hp)) (fun k r => match k with
    | k + 1 => nb (n) nL (G nx ((n, vX (k + 1)) :: lvd (n) false lv) r hp)
    | 0 => False)
  | .astore_n n => pA st (fun k c r => nb (n.val) nL (G nx ((n.val, vR k c) :: lvd (n.val) false lv) r hp)) (fun k r => match k with
    | k + 1 => nb (n.val) nL (G nx ((n.val, vX (k + 1)) :: lvd (n.val) false lv) r hp)
    | 0 => False)
  | .iinc n d => ldI lv n fun v => pI [v] fun x _ => acK tg x d fun y => nb n nL (G nx ((n, vI y) :: lvd n false lv) st hp)
  | .iconst d => csK tg d fun x => G nx lv (vI x :: st) hp
  | .bipush d => csK tg d fun x => G nx lv (vI x :: st) hp
  | .sipush d => csK tg d fun x => G nx lv (vI x :: st) hp
  | .lconst n => G nx lv (vL (lN n.val) :: st) hp
  | .ldc n => match lk K.2.1 n with
    | some x => G nx lv (vI x :: st) hp
    | none => (match lk K.2.2.2.1 n with
      | some v => G nx lv (v :: st) hp
      | none => False)
  | .ldc_w n => match lk K.2.1 n with
    | some x => G nx lv (vI x :: st) hp
    | none => (match lk K.2.2.2.1 n with
      | some v => G nx lv (v :: st) hp
      | none => False)
  | .ldc2_w n => match lk K.2.2.1 n with
    | some x => G nx lv (vL x :: st) hp
    | none => False
  | .getstatic n => match lk K.2.2.2.2.1 n with
    | some v => G nx lv (v :: st) hp
    | none => False
  | .iadd => pI st fun y r => pI r fun x r => G nx lv (vI (x + y) :: r) hp
  | .isub => pI st fun y r => pI r fun x r => G nx lv (vI (x - y) :: r) hp
  | .imul => pI st fun y r => pI r fun x r => G nx lv (vI (x * y) :: r) hp
  | .iand => pI st fun y r => pI r fun x r => G nx lv (vI (x &&& y) :: r) hp
  | .ior => pI st fun y r => pI r fun x r => G nx lv (vI (x ||| y) :: r) hp
  | .ixor => pI st fun y r => pI r fun x r => G nx lv (vI (x ^^^ y) :: r) hp
  | .ishl => pI st fun y r => pI r fun x r => G nx lv (vI (x <<< (y &&& 31)) :: r) hp
  | .ishr => pI st fun y r => pI r fun x r => G nx lv (vI (x >>> (y &&& 31)) :: r) hp
  | .iushr => pI st fun y r => pI r fun x r => G nx lv (vI ((x.toUInt32 >>> (y.toUInt32 &&& Int32.toUInt32 31)).toInt32) :: r) hp
  | .idiv => pI st fun y r => pI r fun x r => ¬ y = 0 ∧ G nx lv (vI (x / y) :: r) hp
  | .irem => pI st fun y r => pI r fun x r => ¬ y = 0 ∧ G nx lv (vI (x - x / y * y) :: r) hp
  | .ladd => pL st fun y r => pL r fun x r => G nx lv (vL (x + y) :: r) hp
  | .lsub => pL st fun y r => pL r fun x r => G nx lv (vL (x - y) :: r) hp
  | .lmul => pL st fun y r => pL r fun x r => G nx lv (vL (x * y) :: r) hp
  | .land => pL st fun y r => pL r fun x r => G nx lv (vL (x &&& y) :: r) hp
  | .lor => pL st fun y r => pL r fun x r => G nx lv (vL (x ||| y) :: r) hp
  | .lxor => pL st fun y r => pL r fun x r => G nx lv (vL (x ^^^ y) :: r) hp
  | .lshl => pI st fun y r => pL r fun x r => G nx lv (vL (x <<< (y.toInt64 &&& 63)) :: r) hp
  | .lshr => pI st fun y r => pL r fun x r => G nx lv (vL (x >>> (y.toInt64 &&& 63)) :: r) hp
  | .lushr => pI st fun y r => pL r fun x r => G nx lv (vL ((x.toUInt64 >>> (y.toInt64.toUInt64 &&& Int64.toUInt64 63)).toInt64) :: r) hp
  | .i2l => pI st fun x r => G nx lv (vL x.toInt64 :: r) hp
  | .l2i => pL st fun x r => G nx lv (vI x.toInt32 :: r) hp
  | .i2b => pI st fun x r => G nx lv (vI x.toInt8.toInt32 :: r) hp
  | .i2s => pI st fun x r => G nx lv (vI x.toInt16.toInt32 :: r) hp
  | .i2c => pI st fun x r => G nx lv (vI (x.toUInt32 % 65536).toInt32 :: r) hp
  | .lcmp => pL st fun y r => pL r fun x r => G nx lv (vI (lg_cmp x y) :: r) hp
  | .dup => pV st fun v r => one v (G nx lv (v :: v :: r) hp)
  | .dup2 => pV st fun v r => pV r fun u r => one v (one u (G nx lv (v :: u :: v :: u :: r) hp))
  | .pop => pV st fun v r => one v (G nx lv r hp)
  | .if_icmp .eq _ => pI st fun y r => pI r fun x r => tg1 tg fun t => (x = y → G t lv r hp) ∧ (¬ x = y → G nx lv r hp)
  | .ifCond .eq _ => pI st fun x r => tg1 tg fun t => (x = 0 → G t lv r hp) ∧ (¬ x = 0 → G nx lv r hp)
  | .if_icmp .ne _ => pI st fun y r => pI r fun x r => tg1 tg fun t => (¬ x = y → G t lv r hp) ∧ (x = y → G nx lv r hp)
  | .ifCond .ne _ => pI st fun x r => tg1 tg fun t => (¬ x = 0 → G t lv r hp) ∧ (x = 0 → G nx lv r hp)
  | .if_icmp .lt _ => pI st fun y r => pI r fun x r => tg1 tg fun t => (x < y → G t lv r hp) ∧ (¬ x < y → G nx lv r hp)
  | .ifCond .lt _ => pI st fun x r => tg1 tg fun t => (x < 0 → G t lv r hp) ∧ (¬ x < 0 → G nx lv r hp)
  | .if_icmp .ge _ => pI st fun y r => pI r fun x r => tg1 tg fun t => (y ≤ x → G t lv r hp) ∧ (¬ y ≤ x → G nx lv r hp)
  | .ifCond .ge _ => pI st fun x r => tg1 tg fun t => (0 ≤ x → G t lv r hp) ∧ (¬ 0 ≤ x → G nx lv r hp)
  | .if_icmp .gt _ => pI st fun y r => pI r fun x r => tg1 tg fun t => (y < x → G t lv r hp) ∧ (¬ y < x → G nx lv r hp)
  | .ifCond .gt _ => pI st fun x r => tg1 tg fun t => (0 < x → G t lv r hp) ∧ (¬ 0 < x → G nx lv r hp)
  | .if_icmp .le _ => pI st fun y r => pI r fun x r => tg1 tg fun t => (x ≤ y → G t lv r hp) ∧ (¬ x ≤ y → G nx lv r hp)
  | .ifCond .le _ => pI st fun x r => tg1 tg fun t => (x ≤ 0 → G t lv r hp) ∧ (¬ x ≤ 0 → G nx lv r hp)
  | .goto _ => tg1 tg fun t => G t lv st hp
  | .tableswitch _ lo hi _ => pI st fun x r => swg tg fun d ts => swt x (fun t => G t lv r hp) lo hi d ts lo
  | .getfield n => pA st (fun k c r => fsh K.1 n k fun j f => gtf hp c j f fun v => G nx lv (v :: r) hp) (fun n2 r => match n2 with
    | m + 10 => txok m ∧ (match lk K.2.2.2.2.2 n with
      | some 0 => G nx lv (vX (m + 11) :: r) hp
      | some _ => G nx lv (vI 0 :: r) hp
      | none => False)
    | _ => False)
  | .putfield n => pV st fun v r => pR r fun k c r => fsh K.1 n k fun j f => ptf hp c j f v fun hq => G nx lv r hq
  | .iaload => pI st fun i r => pA r (fun k c r => ash k 0 fun n => vp_in i n ∧ G nx lv (vI (hp.1 c i.toNatClampNeg) :: r) hp) (fun n r => match n with
    | 1 => scq sc fun q => vp_in i q.1 ∧ G nx lv (vI (q.2 i.toNatClampNeg) :: r) hp
    | 2 => vp_in i 6 ∧ G nx lv (vI (kab i.toNatClampNeg) :: r) hp
    | _ => False)
  | .laload => pI st fun i r => pR r fun k c r => ash k 1 fun n => vp_in i n ∧ G nx lv (vL (hp.2 c i.toNatClampNeg) :: r) hp
  | .baload => pI st fun i r => pA r (fun k c r => ash k 2 fun n => vp_in i n ∧ G nx lv (vI (hp.1 c i.toNatClampNeg) :: r) hp) (fun n r => match n with
    | m + 11 => (txok m ∧ vp_in i (tx_n m)) ∧ G nx lv (vI (tx_b m i.toNatClampNeg) :: r) hp
    | _ => False)
  | .aaload => pI st fun i r => pR r fun k c r => arf k fun n k2 d => vp_in i n ∧ G nx lv (vR k2 (c + d + i.toNatClampNeg) :: r) hp
  | .iastore => pI st fun x r => pI r fun i r => pR r fun k c r => ash k 0 fun n => vp_in i n ∧ G nx lv r (uI hp c i.toNatClampNeg x)
  | .lastore => pL st fun x r => pI r fun i r => pR r fun k c r => ash k 1 fun n => vp_in i n ∧ G nx lv r (uL hp c i.toNatClampNeg x)
  | .bastore => pI st fun x r => pI r fun i r => pR r fun k c r => ash k 2 fun n => vp_in i n ∧ G nx lv r (uI hp c i.toNatClampNeg x.toInt8.toInt32)
  | .arraylength => pA st (fun k _ r => aln k fun n => G nx lv (vI (nI n) :: r) hp) (fun n r => match n with
    | 1 => scq sc fun q => G nx lv (vI (nI q.1) :: r) hp
    | m + 11 => txok m ∧ G nx lv (vI (nI (tx_n m)) :: r) hp
    | _ => False)
  | .invokevirtual n => cll E false n st hp fun r hq => G nx lv r hq
  | .invokestatic n => cll E true n st hp fun r hq => G nx lv r hq
  | .ireturn => pI st fun x r => pN r (rtI ret x (Q (some (vI x)) hp))
  | .lreturn => pL st fun x r => pN r (rtL ret (Q (some (vL x)) hp))
  | .areturn => pA st (fun _ _ _ => False) (fun n r => pN r (rtA n ret (Q (some (vX n)) hp)))
  | .return_ => pN st (rtV ret (Q none hp))
  | _ => False
def stp (P : PG) (K : LKS) (E : EN) (nL : Nat) (ret : Option FieldType) (sc : Option (Nat × (Nat → Int32))) (Q : QP) (G : GP) (pc : Nat) (lv : LV) (st : List AV) (hp : HP) : Prop :=
  match lk2 P pc with
  | some (i, nx, tg) => stI K E nL ret sc Q G i nx tg lv st hp
  | none => False
end
section
/-! what the machine's words mean over the kit's worlds -/
def cv (ad ex : Nat → Nat) (fm : Value) : AV → Value
  | .inl x => .int x
  | .inr (.inl x) => .long x
  | .inr (.inr (.inl q)) => .ref (ad q.2)
  | .inr (.inr (.inr 0)) => fm
  | .inr (.inr (.inr (n + 1))) => .ref (ex (n + 1))
def ab_fv (ad : Nat → Nat) (hp : HP) (c : Nat) (f : Nat × Nat × Nat) (j : Nat) : Value := match f.1 with
  | 0 => .int (hp.1 c j)
  | 1 => .long (hp.2 c j)
  | 2 => .int (hp.1 c j)
  | _ => .ref (ad (c + f.2.2))
def ab_fs (ad : Nat → Nat) (hp : HP) (c : Nat) : Nat → List (Nat × Nat × Nat) → List Value
  | _, [] => []
  | j, f :: t => ab_fv ad hp c f j :: ab_fs ad hp c (j + 1) t
def ab_ar (ad : Nat → Nat) (cy : Nat → ClassId) (hp : HP) (c : Nat) (a : Nat × Nat × Nat × Nat) : va_E := match a.1 with
  | 0 => .inl (cy 0, a.2.1, .inl (hp.1 c))
  | 1 => .inl (cy 1, a.2.1, .inr (.inl (hp.2 c)))
  | 2 => .inl (cy 2, a.2.1, .inl (hp.1 c))
  | t => .inl (cy t, a.2.1, .inr (.inr (.inr (.inr (fun j => some (ad (c + a.2.2.2 + j)))))))
def ab_ent (ad : Nat → Nat) (cy : Nat → ClassId) (hp : HP) (k c : Nat) : va_E := match kd k with
  | .inl o => .inr (o.1, ab_fs ad hp c 0 o.2)
  | .inr a => ab_ar ad cy hp c a
def ab_w (ad : Nat → Nat) (cy : Nat → ClassId) (hp : HP) : va_W := (List.range 67).map (fun c => (ad c, ab_ent ad cy hp (kc c) c))
def ab_A (ad : Nat → Nat) : Nat → Prop := fun q => ∃ c, c < 67 ∧ q = ad c
def ab_inj (ad : Nat → Nat) : Prop := ∀ i j, i < 67 → j < 67 → ad i = ad j → i = j
def ab_ty (cy : Nat → ClassId) : List (ClassId × FieldType) := [(cy 0, .int), (cy 1, .long), (cy 2, .byte), (cy 3, .object "SleepWard$Walker"), (cy 4, .object "SleepWard$Sheet")]
def tx_R : List (String × Nat × String × Nat) := [("SleepWard$Text", 142, "walker", 10), ("SleepWard$Text", 132, "sloper", 12), ("SleepWard$Text", 134, "lamper", 14), ("SleepWard$Text", 136, "homer", 16), ("SleepWard$Text", 138, "wanderer", 18), ("SleepWard$Text", 140, "mooner", 20), ("SleepWard$Text", 41, "shut", 22), ("SleepWard$Text", 51, "open", 24), ("SleepWard$Text", 53, "height", 26), ("SleepWard$Text", 58, "lamp", 28), ("SleepWard$Text", 70, "river", 30), ("SleepWard$Text", 75, "dry", 32), ("SleepWard$Text", 77, "moon", 34), ("SleepWard$Text", 81, "rounds", 36), ("SleepWard$Text", 117, "at", 38), ("SleepWard$Text", 119, "way", 40), ("SleepWardModel", 248, "walker", 50), ("SleepWardModel", 250, "sloper", 52), ("SleepWardModel", 252, "lamper", 54), ("SleepWardModel", 254, "homer", 56), ("SleepWardModel", 256, "wanderer", 58), ("SleepWardModel", 258, "mooner", 60), ("SleepWardModel", 283, "shut", 62), ("SleepWardModel", 288, "open", 64), ("SleepWardModel", 290, "height", 66), ("SleepWardModel", 295, "lamp", 68), ("SleepWardModel", 300, "river", 70), ("SleepWardModel", 302, "dry", 72), ("SleepWardModel", 304, "moon", 74), ("SleepWardModel", 306, "rounds", 76), ("SleepWardModel", 263, "at", 78), ("SleepWardModel", 268, "way", 80)]
def XT (ex : Nat → Nat) (fm : Value) (A : Nat → Prop) (U : State) (H : Heap) : Prop :=
  (va_T .int (ex 2) 6 (fun j => .int (kab j)) A U H ∧ va_Z "SleepWard" "KIND_ABOVE" "[I" (.ref (ex 2)) A U H) ∧ va_Z "java/lang/String" "COMPACT_STRINGS" "Z" (.int 1) A U H ∧
  va_Z "jdk/internal/util/Preconditions" "SIOOBE_FORMATTER" "Ljava/util/function/BiFunction;" fm A U H ∧
  (∀ m, txok m → va_O "java/lang/String" (ex (m + 10)) A U H ∧ va_OF "java/lang/String" "coder" "B" (.int 0) (ex (m + 10)) A U H ∧ va_OF "java/lang/String" "value" "[B" (.ref (ex (m + 11))) (ex (m + 10)) A U H ∧ va_T .byte (ex (m + 11)) (tx_n m) (fun j => .int (tx_b m j)) A U H) ∧
  (∀ q ∈ tx_R, vk_R q.1 q.2.1 q.2.2.1 (ex q.2.2.2) U) ∧ va_Nw (.methodLinkNest RX3 73 yX4_isSquare RX4) U
theorem XT.to {ex : Nat → Nat} {fm : Value} {A B : Nat → Prop} {s U : State} {H : Heap} {locs : List Loc} (h : XT ex fm A s s.heap) (hS : va_S A s.heap H locs) (hW : s.WarmedH U.vm) (hU : U.heap = H) (hB : ∀ q, B q → A q) : XT ex fm B U U.heap := by
  rw [hU]
  obtain ⟨⟨h1, h2⟩, h3, h4, h5, h6, h7⟩ := h
  have hk := hS.2.1
  refine ⟨⟨((h1.kept hk).moved hW.alike).narrow hB, ((h2.kept hk).moved hW.alike).narrow hB⟩, ((h3.kept hk).moved hW.alike).narrow hB, ((h4.kept hk).moved hW.alike).narrow hB, fun m hm => ?_, fun q hq => (h6 q hq).warm hW, h7.warmM hW⟩
  obtain ⟨a1, a2, a3, a4⟩ := h5 m hm
  exact ⟨((a1.kept hk).moved hW.alike).narrow hB, ((a2.kept hk).moved hW.alike).narrow hB, ((a3.kept hk).moved hW.alike).narrow hB, ((a4.kept hk).moved hW.alike).narrow hB⟩
theorem XT.blind {ex : Nat → Nat} {fm : Value} {A : Nat → Prop} {U V : State} (h : XT ex fm A U U.heap) (hv : U.vm = V.vm) (hh : V.heap = U.heap) : XT ex fm A V V.heap := by
  rw [hh]
  have ha : U.vm.Alike V.vm := by rw [hv]; exact Vm.Alike.refl _
  obtain ⟨⟨h1, h2⟩, h3, h4, h5, h6, h7⟩ := h
  refine ⟨⟨h1.moved ha, h2.moved ha⟩, h3.moved ha, h4.moved ha, fun m hm => ?_, fun q hq => (h6 q hq).same hv.symm, h7.same rfl hv⟩
  obtain ⟨a1, a2, a3, a4⟩ := h5 m hm
  exact ⟨a1.moved ha, a2.moved ha, a3.moved ha, a4.moved ha⟩
/-! lists -/
theorem lk_mem {α : Type} : ∀ {t : List (Nat × α)} {n : Nat} {v : α}, lk t n = some v → (n, v) ∈ t
  | [], _, _, h => by cases h
  | (a, w) :: t, n, v, h => by
    unfold lk at h
    split at h
    · next hb =>
      cases h
      have := Nat.eq_of_beq_eq_true hb
      subst this
      exact List.mem_cons_self
    · exact List.mem_cons_of_mem _ (lk_mem h)
theorem lk2_mem {α : Type} : ∀ {t : List (Nat × List (Nat × α))} {n : Nat} {v : α}, lk2 t n = some v → ∃ q ∈ t, (n, v) ∈ q.2
  | [], _, _, h => by cases h
  | (a, l) :: t, n, v, h => by
    unfold lk2 at h
    split at h
    · obtain ⟨r, h1, h2⟩ := lk2_mem h
      exact ⟨r, List.mem_cons_of_mem _ h1, h2⟩
    · exact ⟨(a, l), List.mem_cons_self, lk_mem h⟩
theorem nth_get {α : Type} : ∀ (t : List α) (n : Nat), nth t n = t[n]?
  | [], _ => rfl
  | _ :: _, 0 => rfl
  | _ :: t, n + 1 => by rw [List.getElem?_cons_succ]; exact nth_get t n
theorem tk_e : ∀ {n : Nat} {st acc as rest : List AV}, tk n st acc = some (as, rest) → ∃ pre : List AV, st = pre ++ rest ∧ as = pre.reverse ++ acc ∧ pre.length = n
  | 0, st, acc, as, rest, h => by
    cases h
    exact ⟨[], rfl, rfl, rfl⟩
  | n + 1, [], _, _, _, h => by cases h
  | n + 1, v :: st, acc, as, rest, h => by
    obtain ⟨pre, h1, h2, h3⟩ := tk_e (n := n) h
    exact ⟨v :: pre, by rw [h1]; rfl, by rw [h2, List.reverse_cons, List.append_assoc]; rfl, by rw [List.length_cons, h3]⟩
theorem scq_e {sc : Option (Nat × (Nat → Int32))} {k : Nat × (Nat → Int32) → Prop} (h : scq sc k) : ∃ q, sc = some q ∧ k q := by
  unfold scq at h
  split at h
  · exact ⟨_, rfl, h⟩
  · exact h.elim
theorem pI_e {st : List AV} {k : Int32 → List AV → Prop} (h : pI st k) : ∃ x r, st = vI x :: r ∧ k x r := by
  unfold pI at h
  split at h
  · exact ⟨_, _, rfl, h⟩
  · exact h.elim
theorem pL_e {st : List AV} {k : Int64 → List AV → Prop} (h : pL st k) : ∃ x r, st = vL x :: r ∧ k x r := by
  unfold pL at h
  split at h
  · exact ⟨_, _, rfl, h⟩
  · exact h.elim
theorem pV_e {st : List AV} {k : AV → List AV → Prop} (h : pV st k) : ∃ x r, st = x :: r ∧ k x r := by
  unfold pV at h
  split at h
  · exact ⟨_, _, rfl, h⟩
  · exact h.elim
theorem pR_e {st : List AV} {k : Nat → Nat → List AV → Prop} (h : pR st k) : ∃ a b r, st = vR a b :: r ∧ k a b r := by
  unfold pR at h
  split at h
  · exact ⟨_, _, _, rfl, h⟩
  · exact h.elim
theorem pA_e {st : List AV} {k : Nat → Nat → List AV → Prop} {x : Nat → List AV → Prop} (h : pA st k x) : (∃ a b r, st = vR a b :: r ∧ k a b r) ∨ ∃ n r, st = vX n :: r ∧ x n r := by
  unfold pA at h
  split at h
  · exact Or.inl ⟨_, _, _, rfl, h⟩
  · exact Or.inr ⟨_, _, rfl, h⟩
  · exact h.elim
theorem pN_e {st : List AV} {k : Prop} (h : pN st k) : st = [] ∧ k := by
  unfold pN at h
  split at h
  · exact ⟨rfl, h⟩
  · exact h.elim
theorem nb_e {a b : Nat} {k : Prop} (h : nb a b k) : a < b ∧ k := by
  unfold nb at h
  split at h
  · next hb => exact ⟨Nat.le_of_ble_eq_true hb, h⟩
  · exact h.elim
theorem one_e {v : AV} {k : Prop} (h : one v k) : av_two v = false ∧ k := by
  unfold one at h
  split at h
  · next hb => exact ⟨hb, h⟩
  · exact h.elim
theorem tg1_e {t : List Nat} {k : Nat → Prop} (h : tg1 t k) : ∃ a, t = [a] ∧ k a := by
  unfold tg1 at h
  split at h
  · exact ⟨_, rfl, h⟩
  · exact h.elim
theorem ldI_e {lv : LV} {i : Nat} {k : AV → Prop} (h : ldI lv i k) : ∃ x, (i, vI x) ∈ lv ∧ k (vI x) := by
  unfold ldI at h
  split at h
  · next he => exact ⟨_, lk_mem he, h⟩
  · exact h.elim
theorem ldL_e {lv : LV} {i : Nat} {k : AV → Prop} (h : ldL lv i k) : ∃ x, (i, vL x) ∈ lv ∧ k (vL x) := by
  unfold ldL at h
  split at h
  · next he => exact ⟨_, lk_mem he, h⟩
  · exact h.elim
theorem ldA_e {lv : LV} {i : Nat} {k : AV → Prop} (h : ldA lv i k) : (∃ a b, (i, vR a b) ∈ lv ∧ k (vR a b)) ∨ ∃ n, (i, vX (n + 1)) ∈ lv ∧ k (vX (n + 1)) := by
  unfold ldA at h
  split at h
  · next a b he => exact Or.inl ⟨a, b, lk_mem he, h⟩
  · next he => exact Or.inr ⟨_, lk_mem he, h⟩
  · exact h.elim
theorem fsh_e {fl : List (Nat × Nat × Nat)} {idx k : Nat} {kk : Nat → (Nat × Nat × Nat) → Prop} (h : fsh fl idx k kk) : ∃ j o f, (idx, k, j) ∈ fl ∧ kd k = .inl o ∧ nth o.2 j = some f ∧ kk j f := by
  unfold fsh at h
  split at h
  · next k2 j hq =>
    split at h
    · next hb =>
      split at h
      · next n fs ho =>
        split at h
        · next f hf =>
          have := Nat.eq_of_beq_eq_true hb
          have hm := lk_mem hq
          exact ⟨j, (n, fs), f, by rw [this]; exact hm, ho, hf, h⟩
        · exact h.elim
      · exact h.elim
    · exact h.elim
  · exact h.elim
theorem ash_e {k t : Nat} {kk : Nat → Prop} (h : ash k t kk) : ∃ a, kd k = .inr a ∧ a.1 = t ∧ kk a.2.1 := by
  unfold ash at h
  split at h
  · next a n b d ha =>
    split at h
    · next hb => exact ⟨(a, n, b, d), ha, Nat.eq_of_beq_eq_true hb, h⟩
    · exact h.elim
  · exact h.elim
theorem arf_e {k : Nat} {kk : Nat → Nat → Nat → Prop} (h : arf k kk) : ∃ a, kd k = .inr a ∧ 3 ≤ a.1 ∧ kk a.2.1 a.2.2.1 a.2.2.2 := by
  unfold arf at h
  split at h
  · next a n b d ha =>
    split at h
    · next hb => exact ⟨(a, n, b, d), ha, Nat.le_of_ble_eq_true hb, h⟩
    · exact h.elim
  · exact h.elim
theorem aln_e {k : Nat} {kk : Nat → Prop} (h : aln k kk) : ∃ a, kd k = .inr a ∧ kk a.2.1 := by
  unfold aln at h
  split at h
  · next a n b d ha => exact ⟨(a, n, b, d), ha, h⟩
  · exact h.elim
theorem csK_e {tg : List Nat} {d : Int} {k : Int32 → Prop} (h : csK tg d k) : k (cs tg d) := match tg, h with
  | [], h => h
  | [_], h => h
  | [_, _], h => h
  | _ :: _ :: _ :: _, h => h
theorem acK_e {tg : List Nat} {x : Int32} {d : Int} {k : Int32 → Prop} (h : acK tg x d k) : k (ac tg x d) := match tg, h with
  | [], h => h
  | [_], h => h
  | [_, _], h => h
  | _ :: _ :: _ :: _, h => h
/-! the heap's rows -/
theorem rI_eq (hp : HP) (c : Nat) (f : Nat → Int32) : (rI hp c f).1 c = f := if_pos rfl
theorem rI_ne (hp : HP) {c d : Nat} (f : Nat → Int32) (h : d ≠ c) : (rI hp c f).1 d = hp.1 d := if_neg h
theorem rI_2 (hp : HP) (c : Nat) (f : Nat → Int32) : (rI hp c f).2 = hp.2 := rfl
theorem rL_eq (hp : HP) (c : Nat) (f : Nat → Int64) : (rL hp c f).2 c = f := if_pos rfl
theorem rL_ne (hp : HP) {c d : Nat} (f : Nat → Int64) (h : d ≠ c) : (rL hp c f).2 d = hp.2 d := if_neg h
theorem rL_1 (hp : HP) (c : Nat) (f : Nat → Int64) : (rL hp c f).1 = hp.1 := rfl
theorem ab_fs_get (ad : Nat → Nat) (hp : HP) (c : Nat) : ∀ (fs : List (Nat × Nat × Nat)) (i j : Nat) (f : Nat × Nat × Nat), nth fs j = some f → (ab_fs ad hp c i fs)[j]? = some (ab_fv ad hp c f (i + j))
  | [], _, _, _, h => by cases h
  | a :: t, i, 0, f, h => by cases h; rfl
  | a :: t, i, j + 1, f, h => by
    show (ab_fv ad hp c a i :: ab_fs ad hp c (i + 1) t)[j + 1]? = _
    rw [List.getElem?_cons_succ, ab_fs_get ad hp c t (i + 1) j f h]
    rw [show i + 1 + j = i + (j + 1) by omega]
theorem ab_fs_len (ad : Nat → Nat) (hp : HP) (c : Nat) : ∀ (fs : List (Nat × Nat × Nat)) (i : Nat), (ab_fs ad hp c i fs).length = fs.length
  | [], _ => rfl
  | _ :: t, i => by
    show (_ :: ab_fs ad hp c (i + 1) t).length = _
    rw [List.length_cons, ab_fs_len ad hp c t (i + 1), List.length_cons]
theorem ab_fv_congr (ad : Nat → Nat) {hp hq : HP} {c : Nat} {f : Nat × Nat × Nat} {j : Nat} (h1 : hq.1 c j = hp.1 c j) (h2 : hq.2 c j = hp.2 c j) : ab_fv ad hq c f j = ab_fv ad hp c f j := by
  unfold ab_fv
  rw [h1, h2]
theorem ab_fs_congr (ad : Nat → Nat) {hp hq : HP} {c : Nat} : ∀ (fs : List (Nat × Nat × Nat)) (i : Nat), (∀ j, i ≤ j → hq.1 c j = hp.1 c j ∧ hq.2 c j = hp.2 c j) → ab_fs ad hq c i fs = ab_fs ad hp c i fs
  | [], _, _ => rfl
  | f :: t, i, h => by
    show ab_fv ad hq c f i :: ab_fs ad hq c (i + 1) t = ab_fv ad hp c f i :: ab_fs ad hp c (i + 1) t
    rw [ab_fv_congr ad (h i (Nat.le_refl i)).1 (h i (Nat.le_refl i)).2, ab_fs_congr ad t (i + 1) (fun j hj => h j (by omega))]
theorem ab_fs_set (ad : Nat → Nat) {hp hq : HP} {c : Nat} {v : Value} : ∀ (fs : List (Nat × Nat × Nat)) (i j : Nat) (f : Nat × Nat × Nat), nth fs j = some f → ab_fv ad hq c f (i + j) = v → (∀ k, k ≠ i + j → hq.1 c k = hp.1 c k ∧ hq.2 c k = hp.2 c k) → ab_fs ad hq c i fs = (ab_fs ad hp c i fs).set j v
  | [], _, _, _, h, _, _ => by cases h
  | a :: t, i, 0, f, h, hv, hk => by
    cases h
    show ab_fv ad hq c a i :: ab_fs ad hq c (i + 1) t = (ab_fv ad hp c a i :: ab_fs ad hp c (i + 1) t).set 0 v
    rw [List.set_cons_zero, ab_fs_congr ad t (i + 1) (fun j hj => hk j (by omega)), ← hv]
    rfl
  | a :: t, i, j + 1, f, h, hv, hk => by
    show ab_fv ad hq c a i :: ab_fs ad hq c (i + 1) t = (ab_fv ad hp c a i :: ab_fs ad hp c (i + 1) t).set (j + 1) v
    rw [List.set_cons_succ, ab_fv_congr ad (hk i (by omega)).1 (hk i (by omega)).2, ab_fs_set ad (v := v) t (i + 1) j f h (by rw [show i + 1 + j = i + (j + 1) by omega]; exact hv) (fun k h2 => hk k (by omega))]
theorem ab_ent_congr (ad : Nat → Nat) (cy : Nat → ClassId) {hp hq : HP} {k c : Nat} (h1 : hq.1 c = hp.1 c) (h2 : hq.2 c = hp.2 c) : ab_ent ad cy hq k c = ab_ent ad cy hp k c := by
  unfold ab_ent
  split
  · next o ho => rw [ab_fs_congr ad (hp := hp) (hq := hq) (c := c) o.2 0 (fun j _ => ⟨by rw [h1], by rw [h2]⟩)]
  · unfold ab_ar
    rw [h1, h2]
theorem ab_w_get (ad : Nat → Nat) (cy : Nat → ClassId) (hp : HP) {c : Nat} (h : c < 67) : (ab_w ad cy hp)[c]? = some (ad c, ab_ent ad cy hp (kc c) c) := by
  unfold ab_w
  rw [List.getElem?_map, List.getElem?_range h]
  rfl
theorem ab_w_lt (ad : Nat → Nat) (cy : Nat → ClassId) (hp : HP) {c : Nat} {q : Nat × va_E} (h : (ab_w ad cy hp)[c]? = some q) : c < 67 := by
  have := (List.getElem?_eq_some_iff.mp h).1
  unfold ab_w at this
  rw [List.length_map, List.length_range] at this
  exact this
theorem ab_w_set (ad : Nat → Nat) (cy : Nat → ClassId) {hp hq : HP} {c : Nat} (hc : c < 67) (h : ∀ d, d ≠ c → hq.1 d = hp.1 d ∧ hq.2 d = hp.2 d) : (ab_w ad cy hp).set c (ad c, ab_ent ad cy hq (kc c) c) = ab_w ad cy hq := by
  apply List.ext_getElem?
  intro d
  by_cases hd : d < 67
  · rw [ab_w_get ad cy hq hd]
    by_cases hdc : d = c
    · subst hdc
      rw [List.getElem?_set_self (by unfold ab_w; rw [List.length_map, List.length_range]; exact hd)]
    · rw [List.getElem?_set_ne (Ne.symm hdc), ab_w_get ad cy hp hd, ab_ent_congr ad cy (h d hdc).1 (h d hdc).2]
  · rw [List.getElem?_eq_none (by rw [List.length_set]; unfold ab_w; rw [List.length_map, List.length_range]; omega), List.getElem?_eq_none (by unfold ab_w; rw [List.length_map, List.length_range]; omega)]
theorem ab_w_D {ad : Nat → Nat} {cy : Nat → ClassId} {hp : HP} {A : Nat → Prop} (hi : ab_inj ad) (hA : ∀ c, c < 67 → A (ad c)) : va_D A (ab_w ad cy hp) := by
  refine ⟨fun i j x y h1 h2 h3 => ?_, fun k q hk => ?_⟩
  · have l1 := ab_w_lt ad cy hp h1
    have l2 := ab_w_lt ad cy hp h2
    rw [ab_w_get ad cy hp l1] at h1
    rw [ab_w_get ad cy hp l2] at h2
    cases h1
    cases h2
    exact hi i j l1 l2 h3
  · have l1 := ab_w_lt ad cy hp hk
    rw [ab_w_get ad cy hp l1] at hk
    cases hk
    exact hA k l1
theorem ab_fld : ∀ c, c < 67 → ∀ o, kd (kc c) = .inl o → ∀ f ∈ o.2, f.1 = 3 → c + f.2.2 < 67 ∧ kc (c + f.2.2) = f.2.1 := by
  have h : ∀ c, c < 67 → (match kd (kc c) with | .inl o => o.2.all (fun f => !(f.1 == 3) || (decide (c + f.2.2 < 67) && kc (c + f.2.2) == f.2.1)) | .inr _ => true) = true := by decide +kernel
  intro c hc o ho f hf h3
  have h1 := h c hc
  rw [ho] at h1
  have h2 := List.all_eq_true.mp h1 f hf
  simp only [h3, beq_self_eq_true, Bool.not_true, Bool.false_or, Bool.and_eq_true, decide_eq_true_eq, beq_iff_eq] at h2
  exact h2
theorem ab_tag : ∀ c, c < 67 → ∀ o, kd (kc c) = .inl o → ∀ f ∈ o.2, f.1 < 4 := by
  have h : ∀ c, c < 67 → (match kd (kc c) with | .inl o => o.2.all (fun f => decide (f.1 < 4)) | .inr _ => true) = true := by decide +kernel
  intro c hc o ho f hf
  have h1 := h c hc
  rw [ho] at h1
  exact of_decide_eq_true (List.all_eq_true.mp h1 f hf)
theorem ab_arr : ∀ c, c < 67 → ∀ a, kd (kc c) = .inr a → 3 ≤ a.1 → (a.1 = 3 ∨ a.1 = 4) ∧ ∀ j, j < a.2.1 → c + a.2.2.2 + j < 67 ∧ kc (c + a.2.2.2 + j) = a.2.2.1 := by
  have h : ∀ c, c < 67 → (match kd (kc c) with | .inl _ => true | .inr a => !(decide (3 ≤ a.1)) || ((a.1 == 3 || a.1 == 4) && (List.range a.2.1).all (fun j => decide (c + a.2.2.2 + j < 67) && kc (c + a.2.2.2 + j) == a.2.2.1))) = true := by decide +kernel
  intro c hc a ha h3
  have h1 := h c hc
  rw [ha] at h1
  simp only [h3, decide_true, Bool.not_true, Bool.false_or, Bool.and_eq_true, Bool.or_eq_true, beq_iff_eq] at h1
  refine ⟨h1.1, fun j hj => ?_⟩
  have h2 := List.all_eq_true.mp h1.2 j (List.mem_range.mpr hj)
  simp only [Bool.and_eq_true, decide_eq_true_eq, beq_iff_eq] at h2
  exact h2
/-! the context of a walk, and what stands to be shown -/
/-- facts of an object's kind -/
def shp (f : Nat × Nat × Nat) (ty : FieldType) (fin : Bool) : Prop := match f.1 with
  | 0 => ty = .int ∧ fin = false
  | 1 => ty = .long ∧ fin = false
  | 2 => ty = .boolean ∧ fin = false
  | _ => True
def okd (k : Nat) (C : String) (T : u_T) (N : Nat) : Prop := ∃ (o : Nat × List (Nat × Nat × Nat)) (ty0 : Nat → FieldType), kd k = .inl o ∧ vwCl[o.1]? = some (C, T, N) ∧ o.2.length = N ∧ (∀ w ∈ u_ws C T N, w ∈ Gw) ∧ (∀ j, j < N → parseFieldDescriptor (T j).2.2.1 = some (ty0 j)) ∧
  (∀ a, a < N → ∀ b, b < N → a ≠ b → (T a).2.1 ≠ (T b).2.1) ∧ (∀ j, j < N → (T j).1 = C) ∧ ∀ j, j < N → ∀ f, nth o.2 j = some f → shp f (ty0 j) (T j).2.2.2
def flok (own : String) (q : Nat × Nat × Nat) : Prop := ∃ (C : String) (T : u_T) (N : Nat), okd q.2.1 C T N ∧ q.2.2 < N ∧ Cond.fieldLink own q.1 C (T q.2.2).2.1 (T q.2.2).2.2.1 ∈ Gw
/-- a text, and a static -/
def txk (own : String) (q : Nat × AV) : Prop := ∃ t ∈ tx_R, t.1 = own ∧ t.2.1 = q.1 ∧ q.2 = vX (t.2.2.2 - 1 + 1) ∧ 1 ≤ t.2.2.2
def stk (own : String) (q : Nat × AV) : Prop := (Cond.fieldLink own q.1 "SleepWard" "KIND_ABOVE" "[I" ∈ Gw ∧ q.2 = vX 2) ∨ (Cond.fieldLink own q.1 "java/lang/String" "COMPACT_STRINGS" "Z" ∈ Gw ∧ q.2 = vI 1) ∨
  (Cond.fieldLink own q.1 "jdk/internal/util/Preconditions" "SIOOBE_FORMATTER" "Ljava/util/function/BiFunction;" ∈ Gw ∧ q.2 = vX 0)
def txf (own : String) (q : Nat × Nat) : Prop := (q.2 = 0 ∧ Cond.fieldLink own q.1 "java/lang/String" "value" "[B" ∈ Gw) ∨ (q.2 = 1 ∧ Cond.fieldLink own q.1 "java/lang/String" "coder" "B" ∈ Gw)
def lkok (own : String) (K : LKS) : Prop := (∀ q ∈ K.1, flok own q) ∧ (∀ q ∈ K.2.1, Cond.constant own q.1 q.2 ∈ Gw) ∧ (∀ q ∈ K.2.2.1, Cond.constantLong own q.1 q.2 ∈ Gw) ∧ (∀ q ∈ K.2.2.2.1, txk own q) ∧ (∀ q ∈ K.2.2.2.2.1, stk own q) ∧ ∀ q ∈ K.2.2.2.2.2, txf own q
def CX (p : Program) (R : Room) (s : State) (m : MethodId) (args : Array Value) (c : Code) (cc : ByteArray) (own : String) (nL cells slots : Nat) (D : va_G) (ad : Nat → Nat) (cy : Nat → ClassId) (ex : Nat → Nat) (fm : Value) (A : Nat → Prop) (sc : Option (Nat × (Nat → Int32))) : Prop :=
  p.tables.exec = Jvm.exec ∧ c.code = cc ∧ c.maxLocals = nL ∧ s.vm.findClass own = some m.cls ∧ (∀ w ∈ Gw, w.before args s = true) ∧ va_K D vwCl (ab_ty cy) s ∧ ab_inj ad ∧ (∀ q, ab_A ad q → A q) ∧ XT ex fm A s s.heap ∧ fm.category = 1 ∧ (cells ≤ R.cells ∧ slots ≤ R.slots) ∧
  ∀ q, sc = some q → va_X (ex 1) q.1 q.2 s s.heap ∧ ex 1 < s.heap.size ∧ ¬ A (ex 1)
def lvm (ad ex : Nat → Nat) (fm : Value) (lv : LV) : List (Nat × Value) := lv.map (fun q => (q.1, cv ad ex fm q.2))
def OK (p : Program) (l : Launch) (e : Env) (R : Room) (s : State) (m : MethodId) (args : Array Value) (below : List Frame) (meth : Method) (c : Code) (nL cells slots : Nat) (Qs : State → Prop) (D : va_G) (ad : Nat → Nat) (cy : Nat → ClassId) (ex : Nat → Nat) (fm : Value) (A : Nat → Prop) (pc : Nat) (lv : LV) (st : List AV) (hp : HP) : Prop :=
  (∀ q ∈ lv, vld q.2) → (∀ v ∈ st, vld v) → ∀ (H : Heap) (locs : List Loc) (ls : Array Slot), va_P D vwCl (ab_w ad cy hp) H → va_S A s.heap H locs → lv_has ls nL (lvm ad ex fm lv) → W p l e R s m args below meth c H locs cells slots Qs (F0 m pc ls (st.map (cv ad ex fm)))
def Mono (sp : SP) : Prop := ∀ (as : List AV) (hp : HP) (K K' : QP), (∀ v hq, K v hq → K' v hq) → sp as hp K → sp as hp K'
def SC (own : String) (F L : Nat) (q : Nat × Bool × Nat × SP) : Prop := Mono q.2.2.2 ∧
  ∀ (p : Program) (l : Launch) (e : Env) (R : Room) (s : State) (m : MethodId) (args : Array Value) (below : List Frame) (meth : Method) (c : Code) (cc : ByteArray) (nL cells slots : Nat) (Qs : State → Prop) (D : va_G) (ad : Nat → Nat) (cy : Nat → ClassId) (ex : Nat → Nat) (fm : Value) (A : Nat → Prop) (sc : Option (Nat × (Nat → Int32))),
    CX p R s m args c cc own nL cells slots D ad cy ex fm A sc → F ≤ R.frames → L ≤ R.locals → ∀ (pc : Nat) (lv : LV) (as rest : List AV) (hp : HP),
      decode cc pc = .ok ((match q.2.1 with | true => Instr.invokestatic q.1 | false => Instr.invokevirtual q.1), 3) → as.length = q.2.2.1 → wid rest ≤ 8 →
      q.2.2.2 as hp (fun v hq => OK p l e R s m args below meth c nL cells slots Qs D ad cy ex fm A (pc + 3) lv (psh v rest) hq) → OK p l e R s m args below meth c nL cells slots Qs D ad cy ex fm A pc lv (as.reverse ++ rest) hp
theorem cv_two {ad ex : Nat → Nat} {fm : Value} (hf : fm.category = 1) : ∀ v : AV, av_two v = ((cv ad ex fm v).category == 2)
  | .inl x => rfl
  | .inr (.inl x) => rfl
  | .inr (.inr (.inl q)) => rfl
  | .inr (.inr (.inr 0)) => by
    show false = (fm.category == 2)
    rw [hf]; rfl
  | .inr (.inr (.inr (n + 1))) => rfl
theorem cv_one {ad ex : Nat → Nat} {fm : Value} (hf : fm.category = 1) {v : AV} (h : av_two v = false) : (cv ad ex fm v).category = 1 := by
  have h1 := cv_two (ad := ad) (ex := ex) hf v
  match v with
  | .inl x => rfl
  | .inr (.inl x) => cases h
  | .inr (.inr (.inl q)) => rfl
  | .inr (.inr (.inr 0)) => exact hf
  | .inr (.inr (.inr (n + 1))) => rfl
theorem cv_wid {ad ex : Nat → Nat} {fm : Value} (hf : fm.category = 1) : ∀ st : List AV, ((st.map (cv ad ex fm)).map fun v => v.category).sum = wid st
  | [] => rfl
  | v :: t => by
    rw [List.map_cons, List.map_cons, List.sum_cons, cv_wid hf t]
    show _ = (match av_two v with
    | true => 2
    | false => 1) + wid t
    match v with
    | .inl x => rfl
    | .inr (.inl x) => rfl
    | .inr (.inr (.inl q)) => rfl
    | .inr (.inr (.inr 0)) =>
      show fm.category + wid t = 1 + wid t
      rw [hf]
    | .inr (.inr (.inr (n + 1))) => rfl
theorem lv_mono {ls : Array Slot} {nL : Nat} {l1 l2 : List (Nat × Value)} (h : lv_has ls nL l1) (hs : ∀ q ∈ l2, q ∈ l1) : lv_has ls nL l2 := ⟨h.1, h.2.1, fun q hq => h.2.2 q (hs q hq)⟩
theorem lvm_at {ad ex : Nat → Nat} {fm : Value} {ls : Array Slot} {nL i : Nat} {lv : LV} {v : AV} (h : lv_has ls nL (lvm ad ex fm lv)) (hm : (i, v) ∈ lv) : ls[i]? = some (.val (cv ad ex fm v)) := h.2.2 (i, cv ad ex fm v) (List.mem_map.mpr ⟨(i, v), hm, rfl⟩)
theorem lvd_mem {i : Nat} {two : Bool} : ∀ {lv : LV} {q : Nat × AV}, q ∈ lvd i two lv → q ∈ lv ∧ ¬ q.1 = i ∧ ¬ (q.1 + 1 = i ∧ av_two q.2 = true) ∧ ¬ (two = true ∧ q.1 = i + 1)
  | [], q, h => by cases h
  | a :: t, q, h => by
    unfold lvd at h
    split at h
    · have := lvd_mem h
      exact ⟨List.mem_cons_of_mem _ this.1, this.2⟩
    · next hb =>
      rcases List.mem_cons.mp h with rfl | h
      · refine ⟨List.mem_cons_self, ?_, ?_, ?_⟩
        · intro h1
          rw [h1, Nat.beq_refl] at hb
          cases hb
        · intro h1
          rw [h1.1, Nat.beq_refl, h1.2] at hb
          simp at hb
        · intro h1
          rw [h1.2, Nat.beq_refl, h1.1] at hb
          simp at hb
      · have := lvd_mem h
        exact ⟨List.mem_cons_of_mem _ this.1, this.2⟩
theorem lvm_st1 {ad ex : Nat → Nat} {fm : Value} (hf : fm.category = 1) {ls : Array Slot} {nL i : Nat} {lv : LV} {v : AV} {w : Value} (hw : cv ad ex fm v = w) (h : lv_has ls nL ((i, w) :: (lvm ad ex fm lv).filter (fun q => !(q.1 == i) && !(q.1 + 1 == i && q.2.category == 2)))) : lv_has ls nL (lvm ad ex fm ((i, v) :: lvd i false lv)) := by
  refine lv_mono h (fun q hq => ?_)
  subst hw
  rcases List.mem_cons.mp hq with rfl | hq
  · exact List.mem_cons_self
  · obtain ⟨a, ha, rfl⟩ := List.mem_map.mp hq
    obtain ⟨h1, h2, h3, -⟩ := lvd_mem ha
    refine List.mem_cons_of_mem _ (List.mem_filter.mpr ⟨List.mem_map.mpr ⟨a, h1, rfl⟩, ?_⟩)
    have h4 := cv_two (ad := ad) (ex := ex) hf a.2
    rw [h4] at h3
    simp only [Bool.and_eq_true, Bool.not_eq_true', beq_eq_false_iff_ne, Bool.and_eq_false_imp, beq_iff_eq] at h3 ⊢
    exact ⟨h2, fun h5 => fun h6 => h3 ⟨h5, h6⟩⟩
theorem lvm_st2 {ad ex : Nat → Nat} {fm : Value} (hf : fm.category = 1) {ls : Array Slot} {nL i : Nat} {lv : LV} {v : AV} {w : Value} (hw : cv ad ex fm v = w) (h : lv_has ls nL ((i, w) :: (lvm ad ex fm lv).filter (fun q => !(q.1 == i) && (!(q.1 == i + 1) && !(q.1 + 1 == i && q.2.category == 2))))) : lv_has ls nL (lvm ad ex fm ((i, v) :: lvd i true lv)) := by
  refine lv_mono h (fun q hq => ?_)
  subst hw
  rcases List.mem_cons.mp hq with rfl | hq
  · exact List.mem_cons_self
  · obtain ⟨a, ha, rfl⟩ := List.mem_map.mp hq
    obtain ⟨h1, h2, h3, h7⟩ := lvd_mem ha
    refine List.mem_cons_of_mem _ (List.mem_filter.mpr ⟨List.mem_map.mpr ⟨a, h1, rfl⟩, ?_⟩)
    have h4 := cv_two (ad := ad) (ex := ex) hf a.2
    rw [h4] at h3
    simp only [Bool.and_eq_true, Bool.not_eq_true', beq_eq_false_iff_ne, Bool.and_eq_false_imp, beq_iff_eq] at h3 ⊢
    exact ⟨h2, fun h5 => h7 ⟨rfl, h5⟩, fun h5 => fun h6 => h3 ⟨h5, h6⟩⟩
theorem vs_tl {a : AV} {r : List AV} (h : ∀ v ∈ a :: r, vld v) : ∀ v ∈ r, vld v := fun v hv => h v (List.mem_cons_of_mem _ hv)
theorem vs_hd {a : AV} {r : List AV} (h : ∀ v ∈ a :: r, vld v) : vld a := h a List.mem_cons_self
theorem vs_cn {a : AV} {r : List AV} (ha : vld a) (h : ∀ v ∈ r, vld v) : ∀ v ∈ a :: r, vld v := fun v hv => (List.mem_cons.mp hv).elim (fun e => e ▸ ha) (h v)
theorem vl_cn {i : Nat} {two : Bool} {a : AV} {lv : LV} (ha : vld a) (h : ∀ q ∈ lv, vld q.2) : ∀ q ∈ (i, a) :: lvd i two lv, vld q.2 := fun q hq => (List.mem_cons.mp hq).elim (fun e => e ▸ ha) (fun hq => h q (lvd_mem hq).1)
/-! rows that agree within their lengths hold the same cells -/
def lenc (c : Nat) : Nat := match kd (kc c) with
  | .inl o => o.2.length
  | .inr a => a.2.1
def heq (hp hq : HP) : Prop := ∀ c, c < 67 → ∀ j, j < lenc c → hp.1 c j = hq.1 c j ∧ hp.2 c j = hq.2 c j
theorem heq.rfl {hp : HP} : heq hp hp := fun _ _ _ _ => ⟨Eq.refl _, Eq.refl _⟩
theorem heq.symm {hp hq : HP} (h : heq hp hq) : heq hq hp := fun c hc j hj => ⟨(h c hc j hj).1.symm, (h c hc j hj).2.symm⟩
theorem heq.trans {hp hq hr : HP} (h : heq hp hq) (h2 : heq hq hr) : heq hp hr := fun c hc j hj => ⟨(h c hc j hj).1.trans (h2 c hc j hj).1, (h c hc j hj).2.trans (h2 c hc j hj).2⟩
def QInv (Q : QP) : Prop := ∀ v hp hq, heq hp hq → Q v hp → Q v hq
theorem arrV_congr (cI : ClassId) (N : Nat) {f g : Nat → Value} (h : ∀ j, j < N → f j = g j) : arrV cI N f = arrV cI N g := by
  unfold arrV
  congr 1
  congr 1
  funext j
  exact h j.val j.isLt
theorem ab_fs_congr2 (ad : Nat → Nat) {hp hq : HP} {c : Nat} : ∀ (fs : List (Nat × Nat × Nat)) (i : Nat), (∀ j, i ≤ j → j < i + fs.length → hq.1 c j = hp.1 c j ∧ hq.2 c j = hp.2 c j) → ab_fs ad hq c i fs = ab_fs ad hp c i fs
  | [], _, _ => Eq.refl _
  | f :: t, i, h => by
    show ab_fv ad hq c f i :: ab_fs ad hq c (i + 1) t = ab_fv ad hp c f i :: ab_fs ad hp c (i + 1) t
    have h0 := h i (Nat.le_refl i) (by rw [List.length_cons]; omega)
    rw [ab_fv_congr ad h0.1 h0.2, ab_fs_congr2 ad t (i + 1) (fun j hj hj2 => h j (by omega) (by rw [List.length_cons]; omega))]
theorem va_P_heq {D : va_G} {ad : Nat → Nat} {cy : Nat → ClassId} {hp hq : HP} {H : Heap} (h : heq hp hq) (hP : va_P D vwCl (ab_w ad cy hp) H) : va_P D vwCl (ab_w ad cy hq) H := by
  intro c q hq2
  have hc := ab_w_lt ad cy hq hq2
  rw [ab_w_get ad cy hq hc] at hq2
  cases hq2
  have h1 := hP c _ (ab_w_get ad cy hp hc)
  have h2 := h c hc
  unfold lenc at h2
  unfold ab_ent at h1 ⊢
  cases hk : kd (kc c) with
  | inl o =>
    rw [hk] at h1 h2
    dsimp only at h1 h2 ⊢
    rw [ab_fs_congr2 ad (hp := hp) (hq := hq) (c := c) o.2 0 (fun j _ hj => by
      have := h2 j (by omega)
      exact ⟨this.1.symm, this.2.symm⟩)]
    exact h1
  | inr a =>
    rw [hk] at h1 h2
    dsimp only at h1 h2 ⊢
    obtain ⟨t, n, k, d⟩ := a
    dsimp only at h2
    match t, h1 with
    | 0, h1 =>
      show H[ad c]? = some (arrV (cy 0) n (fun j => .int (hq.1 c j)))
      rw [← arrV_congr (cy 0) n (f := fun j => .int (hp.1 c j)) (fun j hj => by rw [(h2 j hj).1])]
      exact h1
    | 1, h1 =>
      show H[ad c]? = some (arrV (cy 1) n (fun j => .long (hq.2 c j)))
      rw [← arrV_congr (cy 1) n (f := fun j => .long (hp.2 c j)) (fun j hj => by rw [(h2 j hj).2])]
      exact h1
    | 2, h1 =>
      show H[ad c]? = some (arrV (cy 2) n (fun j => .int (hq.1 c j)))
      rw [← arrV_congr (cy 2) n (f := fun j => .int (hp.1 c j)) (fun j hj => by rw [(h2 j hj).1])]
      exact h1
    | _ + 3, h1 => exact h1
/-- what a list of locals says is said in another one -/
def lvs : LV → LV → Prop
  | [], _ => True
  | q :: t, lv => lk lv q.1 = some q.2 ∧ lvs t lv
theorem lvs_mem : ∀ {t lv : LV}, lvs t lv → ∀ q ∈ t, q ∈ lv
  | [], _, _, q, h => by cases h
  | a :: t, lv, h, q, hq => by
    rcases List.mem_cons.mp hq with e | hq
    · rw [e]
      exact lk_mem h.1
    · exact lvs_mem h.2 q hq
end
section
/-! one step of the machine, over the kit's rows -/
section
variable {p : Program} {l : Launch} {e : Env} {R : Room} {s : State} {m : MethodId} {args : Array Value} {below : List Frame} {meth : Method} {c : Code} {cells slots : Nat} {Qs : State → Prop} {cc : ByteArray} {own : String} {nL : Nat} {D : va_G} {ad : Nat → Nat} {cy : Nat → ClassId} {ex : Nat → Nat} {fm : Value} {A : Nat → Prop} {sc : Option (Nat × (Nat → Int32))}
theorem ab_ldcSw {H : Heap} {locs : List Loc} {ls : Array Slot} {pc : Nat} {rest : List Value} (hexec : p.tables.exec = Jvm.exec) (hb : c.code = cc) {own tx : String} {index q : Nat} (hown : s.vm.findClass own = some m.cls) (hZ : vk_R own index tx q s) (hdg : decode cc pc = .ok (.ldc_w index, 3))
    (k : W p l e R s m args below meth c H locs cells slots Qs (F0 m (pc + 3) ls (.ref q :: rest))) : W p l e R s m args below meth c H locs cells slots Qs (F0 m pc ls rest) := by
  intro T hT X
  obtain ⟨t, a1, b1⟩ := k T hT X
  refine ⟨t, ?_, b1⟩
  have hdg2 : decode c.code (F0 m pc ls rest).pc = .ok (.ldc_w index, 3) := by rw [hb]; exact hdg
  obtain ⟨k, cf, i, a', hk, hcf, hcp, -, hr, hev'⟩ := Cond.stringRef_spec (args := #[]) hown hZ.1
  cases hZ.2.symm.trans hev'
  obtain ⟨k', hk', he⟩ := X.warmed.alike.2.2 _ _ hk
  have hr' : k'.resolved[index]? = some (some (.string q)) := by
    rcases X.warmed.entry hk hk' index with h | ⟨h, -⟩
    · rw [h]; exact hr
    · rw [hr] at h; cases h
  jvm_step X.here [hexec, hdg2, ldc_w.wp_string (e := e) (s := T) (f := F0 m pc ls rest) X.here.top hk' (by rw [he]; exact hcf) hcp hr']
  exact a1
theorem ac_eq {x : Int32} {tg : List Nat} {d : Int} (h : Int32.ofInt d = cs tg d) : x + Int32.ofInt d = ac tg x d := by
  unfold cs at h
  unfold ac
  split at h
  · rw [h]
  · rw [h]
  · rfl
theorem ab_K {hp : HP} {A : Nat → Prop} (hi : ab_inj ad) (hA : ∀ q, ab_A ad q → A q) : va_D A (ab_w ad cy hp) := ab_w_D hi (fun c hc => hA _ ⟨c, hc, rfl⟩)
/-- the world behind a write to a cell -/
theorem ab_put {hp hq : HP} {H : Heap} {c : Nat} {x : va_E} (hc : c < 67) (h : ∀ d, d ≠ c → hq.1 d = hp.1 d ∧ hq.2 d = hp.2 d) (hx : ab_ent ad cy hq (kc c) c = x) (hP : va_P D vwCl ((ab_w ad cy hp).set c (ad c, x)) H) : va_P D vwCl (ab_w ad cy hq) H := by
  rw [← ab_w_set ad cy hc h, hx]
  exact hP
theorem ab_obj {hp : HP} {k q : Nat} {o : Nat × List (Nat × Nat × Nat)} (hv : vld (vR k q)) (ho : kd k = .inl o) : (ab_w ad cy hp)[q]? = some (ad q, .inr (o.1, ab_fs ad hp q 0 o.2)) := by
  rw [ab_w_get ad cy hp hv.1, show kc q = k from hv.2]
  unfold ab_ent
  rw [ho]
theorem ab_row {hp : HP} {k q : Nat} {a : Nat × Nat × Nat × Nat} (hv : vld (vR k q)) (ho : kd k = .inr a) : (ab_w ad cy hp)[q]? = some (ad q, ab_ar ad cy hp q a) := by
  rw [ab_w_get ad cy hp hv.1, show kc q = k from hv.2]
  unfold ab_ent
  rw [ho]
theorem ab_ar0 {hp : HP} {q : Nat} {a : Nat × Nat × Nat × Nat} (h : a.1 = 0) : ab_ar ad cy hp q a = .inl (cy 0, a.2.1, .inl (hp.1 q)) := by
  unfold ab_ar
  obtain ⟨t, n, k, d⟩ := a
  dsimp only at h
  subst h
  rfl
theorem ab_ar1 {hp : HP} {q : Nat} {a : Nat × Nat × Nat × Nat} (h : a.1 = 1) : ab_ar ad cy hp q a = .inl (cy 1, a.2.1, .inr (.inl (hp.2 q))) := by
  unfold ab_ar
  obtain ⟨t, n, k, d⟩ := a
  dsimp only at h
  subst h
  rfl
theorem ab_ar2 {hp : HP} {q : Nat} {a : Nat × Nat × Nat × Nat} (h : a.1 = 2) : ab_ar ad cy hp q a = .inl (cy 2, a.2.1, .inl (hp.1 q)) := by
  unfold ab_ar
  obtain ⟨t, n, k, d⟩ := a
  dsimp only at h
  subst h
  rfl
theorem ab_ar3 {hp : HP} {q : Nat} {a : Nat × Nat × Nat × Nat} (h : a.1 = 3 ∨ a.1 = 4) : ab_ar ad cy hp q a = .inl (cy a.1, a.2.1, .inr (.inr (.inr (.inr (fun j => some (ad (q + a.2.2.2 + j))))))) := by
  unfold ab_ar
  obtain ⟨t, n, k, d⟩ := a
  rcases h with h | h <;> (dsimp only at h; subst h; rfl)
theorem ab_arX {hp : HP} {q : Nat} (a : Nat × Nat × Nat × Nat) (h : a.1 < 5) : ∃ x : vp_A, ab_ar ad cy hp q a = .inl (cy a.1, x) ∧ x.1 = a.2.1 ∧ ∃ ty, (ab_ty cy)[a.1]? = some (cy a.1, ty) := by
  unfold ab_ar
  obtain ⟨t, n, k, d⟩ := a
  match t, h with
  | 0, _ => exact ⟨_, rfl, rfl, _, rfl⟩
  | 1, _ => exact ⟨_, rfl, rfl, _, rfl⟩
  | 2, _ => exact ⟨_, rfl, rfl, _, rfl⟩
  | 3, _ => exact ⟨_, rfl, rfl, _, rfl⟩
  | 4, _ => exact ⟨_, rfl, rfl, _, rfl⟩
theorem kd_tag : ∀ c, c < 67 → ∀ a, kd (kc c) = .inr a → a.1 < 5 := by
  have h : ∀ c, c < 67 → (match kd (kc c) with | .inl _ => true | .inr a => decide (a.1 < 5)) = true := by decide +kernel
  intro c hc a ha
  have h1 := h c hc
  rw [ha] at h1
  exact of_decide_eq_true h1
theorem ok_iload (hC : CX p R s m args c cc own nL cells slots D ad cy ex fm A sc) {pc : Nat} {lv : LV} {st : List AV} {hp : HP} {n : Nat} (hd : decode cc pc = .ok (.iload n, 2)) (h : ldI lv n fun v => OK p l e R s m args below meth c nL cells slots Qs D ad cy ex fm A (pc + 2) lv (v :: st) hp) : OK p l e R s m args below meth c nL cells slots Qs D ad cy ex fm A pc lv st hp := by
  intro hv hs H locs ls hP hS hl
  obtain ⟨x, hm, hz⟩ := ldI_e h
  exact lv_iload hC.1 hC.2.1 hd (lvm_at hl hm) (hz hv (vs_cn trivial hs) H locs ls hP hS hl)
theorem ok_iload_n (hC : CX p R s m args c cc own nL cells slots D ad cy ex fm A sc) {pc : Nat} {lv : LV} {st : List AV} {hp : HP} {n : Fin 4} (hd : decode cc pc = .ok (.iload_n n, 1)) (h : ldI lv n.val fun v => OK p l e R s m args below meth c nL cells slots Qs D ad cy ex fm A (pc + 1) lv (v :: st) hp) : OK p l e R s m args below meth c nL cells slots Qs D ad cy ex fm A pc lv st hp := by
  intro hv hs H locs ls hP hS hl
  obtain ⟨x, hm, hz⟩ := ldI_e h
  exact lv_iload_n hC.1 hC.2.1 hd rfl (lvm_at hl hm) (hz hv (vs_cn trivial hs) H locs ls hP hS hl)
theorem ok_lload (hC : CX p R s m args c cc own nL cells slots D ad cy ex fm A sc) {pc : Nat} {lv : LV} {st : List AV} {hp : HP} {n : Nat} (hd : decode cc pc = .ok (.lload n, 2)) (h : ldL lv n fun v => OK p l e R s m args below meth c nL cells slots Qs D ad cy ex fm A (pc + 2) lv (v :: st) hp) : OK p l e R s m args below meth c nL cells slots Qs D ad cy ex fm A pc lv st hp := by
  intro hv hs H locs ls hP hS hl
  obtain ⟨x, hm, hz⟩ := ldL_e h
  exact lv_lload hC.1 hC.2.1 hd (lvm_at hl hm) (hz hv (vs_cn trivial hs) H locs ls hP hS hl)
theorem ok_lload_n (hC : CX p R s m args c cc own nL cells slots D ad cy ex fm A sc) {pc : Nat} {lv : LV} {st : List AV} {hp : HP} {n : Fin 4} (hd : decode cc pc = .ok (.lload_n n, 1)) (h : ldL lv n.val fun v => OK p l e R s m args below meth c nL cells slots Qs D ad cy ex fm A (pc + 1) lv (v :: st) hp) : OK p l e R s m args below meth c nL cells slots Qs D ad cy ex fm A pc lv st hp := by
  intro hv hs H locs ls hP hS hl
  obtain ⟨x, hm, hz⟩ := ldL_e h
  exact lv_lload_n hC.1 hC.2.1 hd rfl (lvm_at hl hm) (hz hv (vs_cn trivial hs) H locs ls hP hS hl)
theorem ok_aload (hC : CX p R s m args c cc own nL cells slots D ad cy ex fm A sc) {pc : Nat} {lv : LV} {st : List AV} {hp : HP} {n : Nat} (hd : decode cc pc = .ok (.aload n, 2)) (h : ldA lv n fun v => OK p l e R s m args below meth c nL cells slots Qs D ad cy ex fm A (pc + 2) lv (v :: st) hp) : OK p l e R s m args below meth c nL cells slots Qs D ad cy ex fm A pc lv st hp := by
  intro hv hs H locs ls hP hS hl
  rcases ldA_e h with ⟨a, b, hm, hz⟩ | ⟨k, hm, hz⟩
  · exact lv_aload hC.1 hC.2.1 hd (lvm_at hl hm) (hz hv (vs_cn (hv _ hm) hs) H locs ls hP hS hl)
  · exact lv_aload hC.1 hC.2.1 hd (lvm_at hl hm) (hz hv (vs_cn trivial hs) H locs ls hP hS hl)
theorem ok_aload_n (hC : CX p R s m args c cc own nL cells slots D ad cy ex fm A sc) {pc : Nat} {lv : LV} {st : List AV} {hp : HP} {n : Fin 4} (hd : decode cc pc = .ok (.aload_n n, 1)) (h : ldA lv n.val fun v => OK p l e R s m args below meth c nL cells slots Qs D ad cy ex fm A (pc + 1) lv (v :: st) hp) : OK p l e R s m args below meth c nL cells slots Qs D ad cy ex fm A pc lv st hp := by
  intro hv hs H locs ls hP hS hl
  rcases ldA_e h with ⟨a, b, hm, hz⟩ | ⟨k, hm, hz⟩
  · exact lv_aload_n hC.1 hC.2.1 hd rfl (lvm_at hl hm) (hz hv (vs_cn (hv _ hm) hs) H locs ls hP hS hl)
  · exact lv_aload_n hC.1 hC.2.1 hd rfl (lvm_at hl hm) (hz hv (vs_cn trivial hs) H locs ls hP hS hl)
theorem ok_istore (hC : CX p R s m args c cc own nL cells slots D ad cy ex fm A sc) {pc : Nat} {lv : LV} {st : List AV} {hp : HP} {n : Nat} (hd : decode cc pc = .ok (.istore n, 2)) (h : pI st fun x r => nb (n) nL (OK p l e R s m args below meth c nL cells slots Qs D ad cy ex fm A (pc + 2) ((n, vI x) :: lvd (n) false lv) r hp)) : OK p l e R s m args below meth c nL cells slots Qs D ad cy ex fm A pc lv st hp := by
  intro hv hs H locs ls hP hS hl
  obtain ⟨x, r, rfl, hz⟩ := pI_e h
  obtain ⟨hn, hzz⟩ := nb_e hz
  exact lv_istore hC.1 hC.2.1 hd hl hn rfl (fun ls2 hl2 => hzz (vl_cn trivial hv) (vs_tl hs) H locs ls2 hP hS (lvm_st1 hC.2.2.2.2.2.2.2.2.2.1 rfl hl2))
theorem ok_istore_n (hC : CX p R s m args c cc own nL cells slots D ad cy ex fm A sc) {pc : Nat} {lv : LV} {st : List AV} {hp : HP} {n : Fin 4} (hd : decode cc pc = .ok (.istore_n n, 1)) (h : pI st fun x r => nb (n.val) nL (OK p l e R s m args below meth c nL cells slots Qs D ad cy ex fm A (pc + 1) ((n.val, vI x) :: lvd (n.val) false lv) r hp)) : OK p l e R s m args below meth c nL cells slots Qs D ad cy ex fm A pc lv st hp := by
  intro hv hs H locs ls hP hS hl
  obtain ⟨x, r, rfl, hz⟩ := pI_e h
  obtain ⟨hn, hzz⟩ := nb_e hz
  exact lv_istore_n hC.1 hC.2.1 hd rfl hl hn rfl (fun ls2 hl2 => hzz (vl_cn trivial hv) (vs_tl hs) H locs ls2 hP hS (lvm_st1 hC.2.2.2.2.2.2.2.2.2.1 rfl hl2))
theorem ok_lstore (hC : CX p R s m args c cc own nL cells slots D ad cy ex fm A sc) {pc : Nat} {lv : LV} {st : List AV} {hp : HP} {n : Nat} (hd : decode cc pc = .ok (.lstore n, 2)) (h : pL st fun x r => nb (n + 1) nL (OK p l e R s m args below meth c nL cells slots Qs D ad cy ex fm A (pc + 2) ((n, vL x) :: lvd (n) true lv) r hp)) : OK p l e R s m args below meth c nL cells slots Qs D ad cy ex fm A pc lv st hp := by
  intro hv hs H locs ls hP hS hl
  obtain ⟨x, r, rfl, hz⟩ := pL_e h
  obtain ⟨hn, hzz⟩ := nb_e hz
  exact lv_lstore hC.1 hC.2.1 hd hl hn rfl (fun ls2 hl2 => hzz (vl_cn trivial hv) (vs_tl hs) H locs ls2 hP hS (lvm_st2 hC.2.2.2.2.2.2.2.2.2.1 rfl hl2))
theorem ok_lstore_n (hC : CX p R s m args c cc own nL cells slots D ad cy ex fm A sc) {pc : Nat} {lv : LV} {st : List AV} {hp : HP} {n : Fin 4} (hd : decode cc pc = .ok (.lstore_n n, 1)) (h : pL st fun x r => nb (n.val + 1) nL (OK p l e R s m args below meth c nL cells slots Qs D ad cy ex fm A (pc + 1) ((n.val, vL x) :: lvd (n.val) true lv) r hp)) : OK p l e R s m args below meth c nL cells slots Qs D ad cy ex fm A pc lv st hp := by
  intro hv hs H locs ls hP hS hl
  obtain ⟨x, r, rfl, hz⟩ := pL_e h
  obtain ⟨hn, hzz⟩ := nb_e hz
  exact lv_lstore_n hC.1 hC.2.1 hd rfl hl hn rfl (fun ls2 hl2 => hzz (vl_cn trivial hv) (vs_tl hs) H locs ls2 hP hS (lvm_st2 hC.2.2.2.2.2.2.2.2.2.1 rfl hl2))
theorem ok_astore (hC : CX p R s m args c cc own nL cells slots D ad cy ex fm A sc) {pc : Nat} {lv : LV} {st : List AV} {hp : HP} {n : Nat} (hd : decode cc pc = .ok (.astore n, 2)) (h : pA st (fun k c2 r => nb (n) nL (OK p l e R s m args below meth c nL cells slots Qs D ad cy ex fm A (pc + 2) ((n, vR k c2) :: lvd (n) false lv) r hp)) (fun k r => match k with | k + 1 => nb (n) nL (OK p l e R s m args below meth c nL cells slots Qs D ad cy ex fm A (pc + 2) ((n, vX (k + 1)) :: lvd (n) false lv) r hp) | 0 => False)) : OK p l e R s m args below meth c nL cells slots Qs D ad cy ex fm A pc lv st hp := by
  intro hv hs H locs ls hP hS hl
  rcases pA_e h with ⟨a, b, r, rfl, hz⟩ | ⟨k, r, rfl, hz⟩
  · obtain ⟨hn, hzz⟩ := nb_e hz
    exact lv_astore hC.1 hC.2.1 hd hl hn rfl (fun ls2 hl2 => hzz (vl_cn (vs_hd hs) hv) (vs_tl hs) H locs ls2 hP hS (lvm_st1 hC.2.2.2.2.2.2.2.2.2.1 rfl hl2))
  · match k, hz with
    | 0, hz => exact hz.elim
    | k + 1, hz =>
      obtain ⟨hn, hzzz⟩ := nb_e hz
      exact lv_astore hC.1 hC.2.1 hd hl hn rfl (fun ls2 hl2 => hzzz (vl_cn trivial hv) (vs_tl hs) H locs ls2 hP hS (lvm_st1 hC.2.2.2.2.2.2.2.2.2.1 rfl hl2))
theorem ok_astore_n (hC : CX p R s m args c cc own nL cells slots D ad cy ex fm A sc) {pc : Nat} {lv : LV} {st : List AV} {hp : HP} {n : Fin 4} (hd : decode cc pc = .ok (.astore_n n, 1)) (h : pA st (fun k c2 r => nb (n.val) nL (OK p l e R s m args below meth c nL cells slots Qs D ad cy ex fm A (pc + 1) ((n.val, vR k c2) :: lvd (n.val) false lv) r hp)) (fun k r => match k with | k + 1 => nb (n.val) nL (OK p l e R s m args below meth c nL cells slots Qs D ad cy ex fm A (pc + 1) ((n.val, vX (k + 1)) :: lvd (n.val) false lv) r hp) | 0 => False)) : OK p l e R s m args below meth c nL cells slots Qs D ad cy ex fm A pc lv st hp := by
  intro hv hs H locs ls hP hS hl
  rcases pA_e h with ⟨a, b, r, rfl, hz⟩ | ⟨k, r, rfl, hz⟩
  · obtain ⟨hn, hzz⟩ := nb_e hz
    exact lv_astore_n hC.1 hC.2.1 hd rfl hl hn rfl (fun ls2 hl2 => hzz (vl_cn (vs_hd hs) hv) (vs_tl hs) H locs ls2 hP hS (lvm_st1 hC.2.2.2.2.2.2.2.2.2.1 rfl hl2))
  · match k, hz with
    | 0, hz => exact hz.elim
    | k + 1, hz =>
      obtain ⟨hn, hzzz⟩ := nb_e hz
      exact lv_astore_n hC.1 hC.2.1 hd rfl hl hn rfl (fun ls2 hl2 => hzzz (vl_cn trivial hv) (vs_tl hs) H locs ls2 hP hS (lvm_st1 hC.2.2.2.2.2.2.2.2.2.1 rfl hl2))
theorem ok_iinc (hC : CX p R s m args c cc own nL cells slots D ad cy ex fm A sc) {pc : Nat} {lv : LV} {st : List AV} {hp : HP} {n : Nat} {d : Int} {tg : List Nat} (hd : decode cc pc = .ok (.iinc n d, 3)) (hkc : Int32.ofInt d = cs tg d) (h : ldI lv n fun v => pI [v] fun x _ => acK tg x d fun y => nb n nL (OK p l e R s m args below meth c nL cells slots Qs D ad cy ex fm A (pc + 3) ((n, vI y) :: lvd n false lv) st hp)) : OK p l e R s m args below meth c nL cells slots Qs D ad cy ex fm A pc lv st hp := by
  intro hv hs H locs ls hP hS hl
  obtain ⟨x, hm, hz⟩ := ldI_e h
  obtain ⟨x2, r2, e2, hzz⟩ := pI_e hz
  cases e2
  have hzzz : _ := acK_e hzz
  obtain ⟨hn, hzzzz⟩ := nb_e hzzz
  obtain ⟨k, hk⟩ := List.getElem?_of_mem (List.mem_map.mpr ⟨(n, vI x), hm, rfl⟩ : (n, Value.int x) ∈ lvm ad ex fm lv)
  exact lv_iinc hC.1 hC.2.1 hd hl hk (ac_eq hkc) hn rfl (fun ls2 hl2 => hzzzz (vl_cn trivial hv) hs H locs ls2 hP hS (lvm_st1 hC.2.2.2.2.2.2.2.2.2.1 rfl hl2))
theorem ok_iconst (hC : CX p R s m args c cc own nL cells slots D ad cy ex fm A sc) {pc : Nat} {lv : LV} {st : List AV} {hp : HP} {d : Int} {tg : List Nat} (hd : decode cc pc = .ok (.iconst d, 1)) (hk : Int32.ofInt d = cs tg d) (h : csK tg d fun x => OK p l e R s m args below meth c nL cells slots Qs D ad cy ex fm A (pc + 1) lv (vI x :: st) hp) : OK p l e R s m args below meth c nL cells slots Qs D ad cy ex fm A pc lv st hp := by
  intro hv hs H locs ls hP hS hl
  have hz : _ := csK_e h
  exact lv_iconst hC.1 hC.2.1 hd hk (hz hv (vs_cn trivial hs) H locs ls hP hS hl)
theorem ok_bipush (hC : CX p R s m args c cc own nL cells slots D ad cy ex fm A sc) {pc : Nat} {lv : LV} {st : List AV} {hp : HP} {d : Int} {tg : List Nat} (hd : decode cc pc = .ok (.bipush d, 2)) (hk : (Int8.ofInt d).toInt32 = cs tg d) (h : csK tg d fun x => OK p l e R s m args below meth c nL cells slots Qs D ad cy ex fm A (pc + 2) lv (vI x :: st) hp) : OK p l e R s m args below meth c nL cells slots Qs D ad cy ex fm A pc lv st hp := by
  intro hv hs H locs ls hP hS hl
  have hz : _ := csK_e h
  exact lv_bipush hC.1 hC.2.1 hd hk (hz hv (vs_cn trivial hs) H locs ls hP hS hl)
theorem ok_sipush (hC : CX p R s m args c cc own nL cells slots D ad cy ex fm A sc) {pc : Nat} {lv : LV} {st : List AV} {hp : HP} {d : Int} {tg : List Nat} (hd : decode cc pc = .ok (.sipush d, 3)) (hk : (Int16.ofInt d).toInt32 = cs tg d) (h : csK tg d fun x => OK p l e R s m args below meth c nL cells slots Qs D ad cy ex fm A (pc + 3) lv (vI x :: st) hp) : OK p l e R s m args below meth c nL cells slots Qs D ad cy ex fm A pc lv st hp := by
  intro hv hs H locs ls hP hS hl
  have hz : _ := csK_e h
  exact lv_sipush hC.1 hC.2.1 hd hk (hz hv (vs_cn trivial hs) H locs ls hP hS hl)
theorem ok_lconst (hC : CX p R s m args c cc own nL cells slots D ad cy ex fm A sc) {pc : Nat} {lv : LV} {st : List AV} {hp : HP} {n : Fin 2} (hd : decode cc pc = .ok (.lconst n, 1)) (h : OK p l e R s m args below meth c nL cells slots Qs D ad cy ex fm A (pc + 1) lv (vL (lN n.val) :: st) hp) : OK p l e R s m args below meth c nL cells slots Qs D ad cy ex fm A pc lv st hp := by
  intro hv hs H locs ls hP hS hl
  exact lv_lconst hC.1 hC.2.1 hd rfl (h hv (vs_cn trivial hs) H locs ls hP hS hl)
theorem ok_ldc (hC : CX p R s m args c cc own nL cells slots D ad cy ex fm A sc) {pc : Nat} {lv : LV} {st : List AV} {hp : HP} {n : Nat} {K : LKS} (hK : lkok own K) (hd : decode cc pc = .ok (.ldc n, 2)) (h : match lk K.2.1 n with | some x => OK p l e R s m args below meth c nL cells slots Qs D ad cy ex fm A (pc + 2) lv (vI x :: st) hp | none => (match lk K.2.2.2.1 n with | some v => OK p l e R s m args below meth c nL cells slots Qs D ad cy ex fm A (pc + 2) lv (v :: st) hp | none => False)) : OK p l e R s m args below meth c nL cells slots Qs D ad cy ex fm A pc lv st hp := by
  intro hv hs H locs ls hP hS hl
  split at h
  · next x hx => exact lv_ldc hC.1 hC.2.1 hC.2.2.2.1 (hC.2.2.2.2.1 _ (hK.2.1 _ (lk_mem hx))) hd (h hv (vs_cn trivial hs) H locs ls hP hS hl)
  · split at h
    · next v hx =>
      obtain ⟨t, ht, h1, h2, h3, h4⟩ := hK.2.2.2.1 _ (lk_mem hx)
      obtain ⟨o, ix, tx, q⟩ := t
      dsimp only at h1 h2 h3 h4
      subst h1 h2 h3
      have hR := hC.2.2.2.2.2.2.2.2.1.2.2.2.2.1 _ ht
      dsimp only at hR
      rw [show q = q - 1 + 1 by omega] at hR
      exact va_ldcS hC.1 hC.2.1 hC.2.2.2.1 hR hd (h hv (vs_cn trivial hs) H locs ls hP hS hl)
    · exact h.elim
theorem ok_ldc_w (hC : CX p R s m args c cc own nL cells slots D ad cy ex fm A sc) {pc : Nat} {lv : LV} {st : List AV} {hp : HP} {n : Nat} {K : LKS} (hK : lkok own K) (hd : decode cc pc = .ok (.ldc_w n, 3)) (h : match lk K.2.1 n with | some x => OK p l e R s m args below meth c nL cells slots Qs D ad cy ex fm A (pc + 3) lv (vI x :: st) hp | none => (match lk K.2.2.2.1 n with | some v => OK p l e R s m args below meth c nL cells slots Qs D ad cy ex fm A (pc + 3) lv (v :: st) hp | none => False)) : OK p l e R s m args below meth c nL cells slots Qs D ad cy ex fm A pc lv st hp := by
  intro hv hs H locs ls hP hS hl
  split at h
  · next x hx => exact lv_ldcw hC.1 hC.2.1 hC.2.2.2.1 (hC.2.2.2.2.1 _ (hK.2.1 _ (lk_mem hx))) hd (h hv (vs_cn trivial hs) H locs ls hP hS hl)
  · split at h
    · next v hx =>
      obtain ⟨t, ht, h1, h2, h3, h4⟩ := hK.2.2.2.1 _ (lk_mem hx)
      obtain ⟨o, ix, tx, q⟩ := t
      dsimp only at h1 h2 h3 h4
      subst h1 h2 h3
      have hR := hC.2.2.2.2.2.2.2.2.1.2.2.2.2.1 _ ht
      dsimp only at hR
      rw [show q = q - 1 + 1 by omega] at hR
      exact ab_ldcSw hC.1 hC.2.1 hC.2.2.2.1 hR hd (h hv (vs_cn trivial hs) H locs ls hP hS hl)
    · exact h.elim
theorem ok_ldc2_w (hC : CX p R s m args c cc own nL cells slots D ad cy ex fm A sc) {pc : Nat} {lv : LV} {st : List AV} {hp : HP} {n : Nat} {K : LKS} (hK : lkok own K) (hd : decode cc pc = .ok (.ldc2_w n, 3)) (h : match lk K.2.2.1 n with | some x => OK p l e R s m args below meth c nL cells slots Qs D ad cy ex fm A (pc + 3) lv (vL x :: st) hp | none => False) : OK p l e R s m args below meth c nL cells slots Qs D ad cy ex fm A pc lv st hp := by
  intro hv hs H locs ls hP hS hl
  split at h
  · next x hx => exact lv_ldc2 hC.1 hC.2.1 hC.2.2.2.1 (hC.2.2.2.2.1 _ (hK.2.2.1 _ (lk_mem hx))) hd (h hv (vs_cn trivial hs) H locs ls hP hS hl)
  · exact h.elim
theorem ok_getstatic (hC : CX p R s m args c cc own nL cells slots D ad cy ex fm A sc) {pc : Nat} {lv : LV} {st : List AV} {hp : HP} {n : Nat} {K : LKS} (hK : lkok own K) (hd : decode cc pc = .ok (.getstatic n, 3)) (h : match lk K.2.2.2.2.1 n with | some v => OK p l e R s m args below meth c nL cells slots Qs D ad cy ex fm A (pc + 3) lv (v :: st) hp | none => False) : OK p l e R s m args below meth c nL cells slots Qs D ad cy ex fm A pc lv st hp := by
  intro hv hs H locs ls hP hS hl
  split at h
  · next v hx =>
    have hX := hC.2.2.2.2.2.2.2.2.1
    rcases hK.2.2.2.2.1 _ (lk_mem hx) with ⟨hl1, he⟩ | ⟨hl1, he⟩ | ⟨hl1, he⟩
    · dsimp only at he hl1
      subst he
      exact va_gets hC.1 hC.2.1 hX.1.2 hS hC.2.2.2.1 (hC.2.2.2.2.1 _ hl1) (fun _ h9 => h9) hd (h hv (vs_cn trivial hs) H locs ls hP hS hl)
    · dsimp only at he hl1
      subst he
      exact va_gets hC.1 hC.2.1 hX.2.1 hS hC.2.2.2.1 (hC.2.2.2.2.1 _ hl1) (fun _ h9 => h9) hd (h hv (vs_cn trivial hs) H locs ls hP hS hl)
    · dsimp only at he hl1
      subst he
      exact va_gets hC.1 hC.2.1 hX.2.2.1 hS hC.2.2.2.1 (hC.2.2.2.2.1 _ hl1) (fun _ h9 => h9) hd (h hv (vs_cn trivial hs) H locs ls hP hS hl)
  · exact h.elim
theorem ok_iadd (hC : CX p R s m args c cc own nL cells slots D ad cy ex fm A sc) {pc : Nat} {lv : LV} {st : List AV} {hp : HP} (hd : decode cc pc = .ok (.iadd, 1)) (h : pI st fun y r => pI r fun x r => OK p l e R s m args below meth c nL cells slots Qs D ad cy ex fm A (pc + 1) lv (vI (x + y) :: r) hp) : OK p l e R s m args below meth c nL cells slots Qs D ad cy ex fm A pc lv st hp := by
  intro hv hs H locs ls hP hS hl
  obtain ⟨y, r, rfl, hz⟩ := pI_e h
  obtain ⟨x, r, rfl, hzz⟩ := pI_e hz
  exact lv_iadd hC.1 hC.2.1 hd (hzz hv (vs_cn trivial (vs_tl (vs_tl hs))) H locs ls hP hS hl)
theorem ok_isub (hC : CX p R s m args c cc own nL cells slots D ad cy ex fm A sc) {pc : Nat} {lv : LV} {st : List AV} {hp : HP} (hd : decode cc pc = .ok (.isub, 1)) (h : pI st fun y r => pI r fun x r => OK p l e R s m args below meth c nL cells slots Qs D ad cy ex fm A (pc + 1) lv (vI (x - y) :: r) hp) : OK p l e R s m args below meth c nL cells slots Qs D ad cy ex fm A pc lv st hp := by
  intro hv hs H locs ls hP hS hl
  obtain ⟨y, r, rfl, hz⟩ := pI_e h
  obtain ⟨x, r, rfl, hzz⟩ := pI_e hz
  exact lv_isub hC.1 hC.2.1 hd (hzz hv (vs_cn trivial (vs_tl (vs_tl hs))) H locs ls hP hS hl)
theorem ok_imul (hC : CX p R s m args c cc own nL cells slots D ad cy ex fm A sc) {pc : Nat} {lv : LV} {st : List AV} {hp : HP} (hd : decode cc pc = .ok (.imul, 1)) (h : pI st fun y r => pI r fun x r => OK p l e R s m args below meth c nL cells slots Qs D ad cy ex fm A (pc + 1) lv (vI (x * y) :: r) hp) : OK p l e R s m args below meth c nL cells slots Qs D ad cy ex fm A pc lv st hp := by
  intro hv hs H locs ls hP hS hl
  obtain ⟨y, r, rfl, hz⟩ := pI_e h
  obtain ⟨x, r, rfl, hzz⟩ := pI_e hz
  exact lv_imul hC.1 hC.2.1 hd (hzz hv (vs_cn trivial (vs_tl (vs_tl hs))) H locs ls hP hS hl)
theorem ok_iand (hC : CX p R s m args c cc own nL cells slots D ad cy ex fm A sc) {pc : Nat} {lv : LV} {st : List AV} {hp : HP} (hd : decode cc pc = .ok (.iand, 1)) (h : pI st fun y r => pI r fun x r => OK p l e R s m args below meth c nL cells slots Qs D ad cy ex fm A (pc + 1) lv (vI (x &&& y) :: r) hp) : OK p l e R s m args below meth c nL cells slots Qs D ad cy ex fm A pc lv st hp := by
  intro hv hs H locs ls hP hS hl
  obtain ⟨y, r, rfl, hz⟩ := pI_e h
  obtain ⟨x, r, rfl, hzz⟩ := pI_e hz
  exact lv_iand hC.1 hC.2.1 hd (hzz hv (vs_cn trivial (vs_tl (vs_tl hs))) H locs ls hP hS hl)
theorem ok_ior (hC : CX p R s m args c cc own nL cells slots D ad cy ex fm A sc) {pc : Nat} {lv : LV} {st : List AV} {hp : HP} (hd : decode cc pc = .ok (.ior, 1)) (h : pI st fun y r => pI r fun x r => OK p l e R s m args below meth c nL cells slots Qs D ad cy ex fm A (pc + 1) lv (vI (x ||| y) :: r) hp) : OK p l e R s m args below meth c nL cells slots Qs D ad cy ex fm A pc lv st hp := by
  intro hv hs H locs ls hP hS hl
  obtain ⟨y, r, rfl, hz⟩ := pI_e h
  obtain ⟨x, r, rfl, hzz⟩ := pI_e hz
  exact lv_ior hC.1 hC.2.1 hd (hzz hv (vs_cn trivial (vs_tl (vs_tl hs))) H locs ls hP hS hl)
theorem ok_ixor (hC : CX p R s m args c cc own nL cells slots D ad cy ex fm A sc) {pc : Nat} {lv : LV} {st : List AV} {hp : HP} (hd : decode cc pc = .ok (.ixor, 1)) (h : pI st fun y r => pI r fun x r => OK p l e R s m args below meth c nL cells slots Qs D ad cy ex fm A (pc + 1) lv (vI (x ^^^ y) :: r) hp) : OK p l e R s m args below meth c nL cells slots Qs D ad cy ex fm A pc lv st hp := by
  intro hv hs H locs ls hP hS hl
  obtain ⟨y, r, rfl, hz⟩ := pI_e h
  obtain ⟨x, r, rfl, hzz⟩ := pI_e hz
  exact lv_ixor hC.1 hC.2.1 hd (hzz hv (vs_cn trivial (vs_tl (vs_tl hs))) H locs ls hP hS hl)
theorem ok_ishl (hC : CX p R s m args c cc own nL cells slots D ad cy ex fm A sc) {pc : Nat} {lv : LV} {st : List AV} {hp : HP} (hd : decode cc pc = .ok (.ishl, 1)) (h : pI st fun y r => pI r fun x r => OK p l e R s m args below meth c nL cells slots Qs D ad cy ex fm A (pc + 1) lv (vI (x <<< (y &&& 31)) :: r) hp) : OK p l e R s m args below meth c nL cells slots Qs D ad cy ex fm A pc lv st hp := by
  intro hv hs H locs ls hP hS hl
  obtain ⟨y, r, rfl, hz⟩ := pI_e h
  obtain ⟨x, r, rfl, hzz⟩ := pI_e hz
  exact lv_ishl hC.1 hC.2.1 hd (hzz hv (vs_cn trivial (vs_tl (vs_tl hs))) H locs ls hP hS hl)
theorem ok_ishr (hC : CX p R s m args c cc own nL cells slots D ad cy ex fm A sc) {pc : Nat} {lv : LV} {st : List AV} {hp : HP} (hd : decode cc pc = .ok (.ishr, 1)) (h : pI st fun y r => pI r fun x r => OK p l e R s m args below meth c nL cells slots Qs D ad cy ex fm A (pc + 1) lv (vI (x >>> (y &&& 31)) :: r) hp) : OK p l e R s m args below meth c nL cells slots Qs D ad cy ex fm A pc lv st hp := by
  intro hv hs H locs ls hP hS hl
  obtain ⟨y, r, rfl, hz⟩ := pI_e h
  obtain ⟨x, r, rfl, hzz⟩ := pI_e hz
  exact lv_ishr hC.1 hC.2.1 hd (hzz hv (vs_cn trivial (vs_tl (vs_tl hs))) H locs ls hP hS hl)
theorem ok_iushr (hC : CX p R s m args c cc own nL cells slots D ad cy ex fm A sc) {pc : Nat} {lv : LV} {st : List AV} {hp : HP} (hd : decode cc pc = .ok (.iushr, 1)) (h : pI st fun y r => pI r fun x r => OK p l e R s m args below meth c nL cells slots Qs D ad cy ex fm A (pc + 1) lv (vI ((x.toUInt32 >>> (y.toUInt32 &&& Int32.toUInt32 31)).toInt32) :: r) hp) : OK p l e R s m args below meth c nL cells slots Qs D ad cy ex fm A pc lv st hp := by
  intro hv hs H locs ls hP hS hl
  obtain ⟨y, r, rfl, hz⟩ := pI_e h
  obtain ⟨x, r, rfl, hzz⟩ := pI_e hz
  exact lv_iushr hC.1 hC.2.1 hd rfl (hzz hv (vs_cn trivial (vs_tl (vs_tl hs))) H locs ls hP hS hl)
theorem ok_idiv (hC : CX p R s m args c cc own nL cells slots D ad cy ex fm A sc) {pc : Nat} {lv : LV} {st : List AV} {hp : HP} (hd : decode cc pc = .ok (.idiv, 1)) (h : pI st fun y r => pI r fun x r => ¬ y = 0 ∧ OK p l e R s m args below meth c nL cells slots Qs D ad cy ex fm A (pc + 1) lv (vI (x / y) :: r) hp) : OK p l e R s m args below meth c nL cells slots Qs D ad cy ex fm A pc lv st hp := by
  intro hv hs H locs ls hP hS hl
  obtain ⟨y, r, rfl, hz⟩ := pI_e h
  obtain ⟨x, r, rfl, hne, hzz⟩ := pI_e hz
  exact lv_idiv hC.1 hC.2.1 hd hne (hzz hv (vs_cn trivial (vs_tl (vs_tl hs))) H locs ls hP hS hl)
theorem ok_irem (hC : CX p R s m args c cc own nL cells slots D ad cy ex fm A sc) {pc : Nat} {lv : LV} {st : List AV} {hp : HP} (hd : decode cc pc = .ok (.irem, 1)) (h : pI st fun y r => pI r fun x r => ¬ y = 0 ∧ OK p l e R s m args below meth c nL cells slots Qs D ad cy ex fm A (pc + 1) lv (vI (x - x / y * y) :: r) hp) : OK p l e R s m args below meth c nL cells slots Qs D ad cy ex fm A pc lv st hp := by
  intro hv hs H locs ls hP hS hl
  obtain ⟨y, r, rfl, hz⟩ := pI_e h
  obtain ⟨x, r, rfl, hne, hzz⟩ := pI_e hz
  exact lv_irem hC.1 hC.2.1 hd hne (hzz hv (vs_cn trivial (vs_tl (vs_tl hs))) H locs ls hP hS hl)
theorem ok_ladd (hC : CX p R s m args c cc own nL cells slots D ad cy ex fm A sc) {pc : Nat} {lv : LV} {st : List AV} {hp : HP} (hd : decode cc pc = .ok (.ladd, 1)) (h : pL st fun y r => pL r fun x r => OK p l e R s m args below meth c nL cells slots Qs D ad cy ex fm A (pc + 1) lv (vL (x + y) :: r) hp) : OK p l e R s m args below meth c nL cells slots Qs D ad cy ex fm A pc lv st hp := by
  intro hv hs H locs ls hP hS hl
  obtain ⟨y, r, rfl, hz⟩ := pL_e h
  obtain ⟨x, r, rfl, hzz⟩ := pL_e hz
  exact lv_ladd hC.1 hC.2.1 hd (hzz hv (vs_cn trivial (vs_tl (vs_tl hs))) H locs ls hP hS hl)
theorem ok_lsub (hC : CX p R s m args c cc own nL cells slots D ad cy ex fm A sc) {pc : Nat} {lv : LV} {st : List AV} {hp : HP} (hd : decode cc pc = .ok (.lsub, 1)) (h : pL st fun y r => pL r fun x r => OK p l e R s m args below meth c nL cells slots Qs D ad cy ex fm A (pc + 1) lv (vL (x - y) :: r) hp) : OK p l e R s m args below meth c nL cells slots Qs D ad cy ex fm A pc lv st hp := by
  intro hv hs H locs ls hP hS hl
  obtain ⟨y, r, rfl, hz⟩ := pL_e h
  obtain ⟨x, r, rfl, hzz⟩ := pL_e hz
  exact lv_lsub hC.1 hC.2.1 hd (hzz hv (vs_cn trivial (vs_tl (vs_tl hs))) H locs ls hP hS hl)
theorem ok_lmul (hC : CX p R s m args c cc own nL cells slots D ad cy ex fm A sc) {pc : Nat} {lv : LV} {st : List AV} {hp : HP} (hd : decode cc pc = .ok (.lmul, 1)) (h : pL st fun y r => pL r fun x r => OK p l e R s m args below meth c nL cells slots Qs D ad cy ex fm A (pc + 1) lv (vL (x * y) :: r) hp) : OK p l e R s m args below meth c nL cells slots Qs D ad cy ex fm A pc lv st hp := by
  intro hv hs H locs ls hP hS hl
  obtain ⟨y, r, rfl, hz⟩ := pL_e h
  obtain ⟨x, r, rfl, hzz⟩ := pL_e hz
  exact lv_lmul hC.1 hC.2.1 hd (hzz hv (vs_cn trivial (vs_tl (vs_tl hs))) H locs ls hP hS hl)
theorem ok_land (hC : CX p R s m args c cc own nL cells slots D ad cy ex fm A sc) {pc : Nat} {lv : LV} {st : List AV} {hp : HP} (hd : decode cc pc = .ok (.land, 1)) (h : pL st fun y r => pL r fun x r => OK p l e R s m args below meth c nL cells slots Qs D ad cy ex fm A (pc + 1) lv (vL (x &&& y) :: r) hp) : OK p l e R s m args below meth c nL cells slots Qs D ad cy ex fm A pc lv st hp := by
  intro hv hs H locs ls hP hS hl
  obtain ⟨y, r, rfl, hz⟩ := pL_e h
  obtain ⟨x, r, rfl, hzz⟩ := pL_e hz
  exact lv_land hC.1 hC.2.1 hd (hzz hv (vs_cn trivial (vs_tl (vs_tl hs))) H locs ls hP hS hl)
theorem ok_lor (hC : CX p R s m args c cc own nL cells slots D ad cy ex fm A sc) {pc : Nat} {lv : LV} {st : List AV} {hp : HP} (hd : decode cc pc = .ok (.lor, 1)) (h : pL st fun y r => pL r fun x r => OK p l e R s m args below meth c nL cells slots Qs D ad cy ex fm A (pc + 1) lv (vL (x ||| y) :: r) hp) : OK p l e R s m args below meth c nL cells slots Qs D ad cy ex fm A pc lv st hp := by
  intro hv hs H locs ls hP hS hl
  obtain ⟨y, r, rfl, hz⟩ := pL_e h
  obtain ⟨x, r, rfl, hzz⟩ := pL_e hz
  exact lv_lor hC.1 hC.2.1 hd (hzz hv (vs_cn trivial (vs_tl (vs_tl hs))) H locs ls hP hS hl)
theorem ok_lxor (hC : CX p R s m args c cc own nL cells slots D ad cy ex fm A sc) {pc : Nat} {lv : LV} {st : List AV} {hp : HP} (hd : decode cc pc = .ok (.lxor, 1)) (h : pL st fun y r => pL r fun x r => OK p l e R s m args below meth c nL cells slots Qs D ad cy ex fm A (pc + 1) lv (vL (x ^^^ y) :: r) hp) : OK p l e R s m args below meth c nL cells slots Qs D ad cy ex fm A pc lv st hp := by
  intro hv hs H locs ls hP hS hl
  obtain ⟨y, r, rfl, hz⟩ := pL_e h
  obtain ⟨x, r, rfl, hzz⟩ := pL_e hz
  exact lv_lxor hC.1 hC.2.1 hd (hzz hv (vs_cn trivial (vs_tl (vs_tl hs))) H locs ls hP hS hl)
theorem ok_lshl (hC : CX p R s m args c cc own nL cells slots D ad cy ex fm A sc) {pc : Nat} {lv : LV} {st : List AV} {hp : HP} (hd : decode cc pc = .ok (.lshl, 1)) (h : pI st fun y r => pL r fun x r => OK p l e R s m args below meth c nL cells slots Qs D ad cy ex fm A (pc + 1) lv (vL (x <<< (y.toInt64 &&& 63)) :: r) hp) : OK p l e R s m args below meth c nL cells slots Qs D ad cy ex fm A pc lv st hp := by
  intro hv hs H locs ls hP hS hl
  obtain ⟨y, r, rfl, hz⟩ := pI_e h
  obtain ⟨x, r, rfl, hzz⟩ := pL_e hz
  exact lv_lshl hC.1 hC.2.1 hd rfl (hzz hv (vs_cn trivial (vs_tl (vs_tl hs))) H locs ls hP hS hl)
theorem ok_lshr (hC : CX p R s m args c cc own nL cells slots D ad cy ex fm A sc) {pc : Nat} {lv : LV} {st : List AV} {hp : HP} (hd : decode cc pc = .ok (.lshr, 1)) (h : pI st fun y r => pL r fun x r => OK p l e R s m args below meth c nL cells slots Qs D ad cy ex fm A (pc + 1) lv (vL (x >>> (y.toInt64 &&& 63)) :: r) hp) : OK p l e R s m args below meth c nL cells slots Qs D ad cy ex fm A pc lv st hp := by
  intro hv hs H locs ls hP hS hl
  obtain ⟨y, r, rfl, hz⟩ := pI_e h
  obtain ⟨x, r, rfl, hzz⟩ := pL_e hz
  exact lv_lshr hC.1 hC.2.1 hd rfl (hzz hv (vs_cn trivial (vs_tl (vs_tl hs))) H locs ls hP hS hl)
theorem ok_lushr (hC : CX p R s m args c cc own nL cells slots D ad cy ex fm A sc) {pc : Nat} {lv : LV} {st : List AV} {hp : HP} (hd : decode cc pc = .ok (.lushr, 1)) (h : pI st fun y r => pL r fun x r => OK p l e R s m args below meth c nL cells slots Qs D ad cy ex fm A (pc + 1) lv (vL ((x.toUInt64 >>> (y.toInt64.toUInt64 &&& Int64.toUInt64 63)).toInt64) :: r) hp) : OK p l e R s m args below meth c nL cells slots Qs D ad cy ex fm A pc lv st hp := by
  intro hv hs H locs ls hP hS hl
  obtain ⟨y, r, rfl, hz⟩ := pI_e h
  obtain ⟨x, r, rfl, hzz⟩ := pL_e hz
  exact lv_lushr hC.1 hC.2.1 hd rfl (hzz hv (vs_cn trivial (vs_tl (vs_tl hs))) H locs ls hP hS hl)
theorem ok_i2l (hC : CX p R s m args c cc own nL cells slots D ad cy ex fm A sc) {pc : Nat} {lv : LV} {st : List AV} {hp : HP} (hd : decode cc pc = .ok (.i2l, 1)) (h : pI st fun x r => OK p l e R s m args below meth c nL cells slots Qs D ad cy ex fm A (pc + 1) lv (vL x.toInt64 :: r) hp) : OK p l e R s m args below meth c nL cells slots Qs D ad cy ex fm A pc lv st hp := by
  intro hv hs H locs ls hP hS hl
  obtain ⟨x, r, rfl, hz⟩ := pI_e h
  exact lv_i2l hC.1 hC.2.1 hd rfl (hz hv (vs_cn trivial (vs_tl hs)) H locs ls hP hS hl)
theorem ok_l2i (hC : CX p R s m args c cc own nL cells slots D ad cy ex fm A sc) {pc : Nat} {lv : LV} {st : List AV} {hp : HP} (hd : decode cc pc = .ok (.l2i, 1)) (h : pL st fun x r => OK p l e R s m args below meth c nL cells slots Qs D ad cy ex fm A (pc + 1) lv (vI x.toInt32 :: r) hp) : OK p l e R s m args below meth c nL cells slots Qs D ad cy ex fm A pc lv st hp := by
  intro hv hs H locs ls hP hS hl
  obtain ⟨x, r, rfl, hz⟩ := pL_e h
  exact lv_l2i hC.1 hC.2.1 hd rfl (hz hv (vs_cn trivial (vs_tl hs)) H locs ls hP hS hl)
theorem ok_i2b (hC : CX p R s m args c cc own nL cells slots D ad cy ex fm A sc) {pc : Nat} {lv : LV} {st : List AV} {hp : HP} (hd : decode cc pc = .ok (.i2b, 1)) (h : pI st fun x r => OK p l e R s m args below meth c nL cells slots Qs D ad cy ex fm A (pc + 1) lv (vI x.toInt8.toInt32 :: r) hp) : OK p l e R s m args below meth c nL cells slots Qs D ad cy ex fm A pc lv st hp := by
  intro hv hs H locs ls hP hS hl
  obtain ⟨x, r, rfl, hz⟩ := pI_e h
  exact lv_i2b hC.1 hC.2.1 hd rfl (hz hv (vs_cn trivial (vs_tl hs)) H locs ls hP hS hl)
theorem ok_i2s (hC : CX p R s m args c cc own nL cells slots D ad cy ex fm A sc) {pc : Nat} {lv : LV} {st : List AV} {hp : HP} (hd : decode cc pc = .ok (.i2s, 1)) (h : pI st fun x r => OK p l e R s m args below meth c nL cells slots Qs D ad cy ex fm A (pc + 1) lv (vI x.toInt16.toInt32 :: r) hp) : OK p l e R s m args below meth c nL cells slots Qs D ad cy ex fm A pc lv st hp := by
  intro hv hs H locs ls hP hS hl
  obtain ⟨x, r, rfl, hz⟩ := pI_e h
  exact lv_i2s hC.1 hC.2.1 hd rfl (hz hv (vs_cn trivial (vs_tl hs)) H locs ls hP hS hl)
theorem ok_i2c (hC : CX p R s m args c cc own nL cells slots D ad cy ex fm A sc) {pc : Nat} {lv : LV} {st : List AV} {hp : HP} (hd : decode cc pc = .ok (.i2c, 1)) (h : pI st fun x r => OK p l e R s m args below meth c nL cells slots Qs D ad cy ex fm A (pc + 1) lv (vI (x.toUInt32 % 65536).toInt32 :: r) hp) : OK p l e R s m args below meth c nL cells slots Qs D ad cy ex fm A pc lv st hp := by
  intro hv hs H locs ls hP hS hl
  obtain ⟨x, r, rfl, hz⟩ := pI_e h
  exact lv_i2c hC.1 hC.2.1 hd rfl (hz hv (vs_cn trivial (vs_tl hs)) H locs ls hP hS hl)
theorem ok_lcmp (hC : CX p R s m args c cc own nL cells slots D ad cy ex fm A sc) {pc : Nat} {lv : LV} {st : List AV} {hp : HP} (hd : decode cc pc = .ok (.lcmp, 1)) (h : pL st fun y r => pL r fun x r => OK p l e R s m args below meth c nL cells slots Qs D ad cy ex fm A (pc + 1) lv (vI (lg_cmp x y) :: r) hp) : OK p l e R s m args below meth c nL cells slots Qs D ad cy ex fm A pc lv st hp := by
  intro hv hs H locs ls hP hS hl
  obtain ⟨y, r, rfl, hz⟩ := pL_e h
  obtain ⟨x, r, rfl, hzz⟩ := pL_e hz
  exact W.lcmp hC.1 hC.2.1 hd (hzz hv (vs_cn trivial (vs_tl (vs_tl hs))) H locs ls hP hS hl)
theorem ok_dup (hC : CX p R s m args c cc own nL cells slots D ad cy ex fm A sc) {pc : Nat} {lv : LV} {st : List AV} {hp : HP} (hd : decode cc pc = .ok (.dup, 1)) (h : pV st fun v r => one v (OK p l e R s m args below meth c nL cells slots Qs D ad cy ex fm A (pc + 1) lv (v :: v :: r) hp)) : OK p l e R s m args below meth c nL cells slots Qs D ad cy ex fm A pc lv st hp := by
  intro hv hs H locs ls hP hS hl
  obtain ⟨v, r, rfl, hz⟩ := pV_e h
  obtain ⟨h1, hzz⟩ := one_e hz
  exact lv_dup hC.1 hC.2.1 hd (cv_one hC.2.2.2.2.2.2.2.2.2.1 h1) (hzz hv (vs_cn (vs_hd hs) hs) H locs ls hP hS hl)
theorem ok_dup2 (hC : CX p R s m args c cc own nL cells slots D ad cy ex fm A sc) {pc : Nat} {lv : LV} {st : List AV} {hp : HP} (hd : decode cc pc = .ok (.dup2, 1)) (h : pV st fun v r => pV r fun u r => one v (one u (OK p l e R s m args below meth c nL cells slots Qs D ad cy ex fm A (pc + 1) lv (v :: u :: v :: u :: r) hp))) : OK p l e R s m args below meth c nL cells slots Qs D ad cy ex fm A pc lv st hp := by
  intro hv hs H locs ls hP hS hl
  obtain ⟨v, r, rfl, hz⟩ := pV_e h
  obtain ⟨u, r, rfl, hzz⟩ := pV_e hz
  obtain ⟨h1, hzzz⟩ := one_e hzz
  obtain ⟨h2, hzzzz⟩ := one_e hzzz
  exact lv_dup2_11 hC.1 hC.2.1 hd (cv_one hC.2.2.2.2.2.2.2.2.2.1 h1) (cv_one hC.2.2.2.2.2.2.2.2.2.1 h2) (hzzzz hv (vs_cn (vs_hd hs) (vs_cn (vs_hd (vs_tl hs)) hs)) H locs ls hP hS hl)
theorem ok_pop (hC : CX p R s m args c cc own nL cells slots D ad cy ex fm A sc) {pc : Nat} {lv : LV} {st : List AV} {hp : HP} (hd : decode cc pc = .ok (.pop, 1)) (h : pV st fun v r => one v (OK p l e R s m args below meth c nL cells slots Qs D ad cy ex fm A (pc + 1) lv r hp)) : OK p l e R s m args below meth c nL cells slots Qs D ad cy ex fm A pc lv st hp := by
  intro hv hs H locs ls hP hS hl
  obtain ⟨v, r, rfl, hz⟩ := pV_e h
  obtain ⟨h1, hzz⟩ := one_e hz
  exact lv_pop hC.1 hC.2.1 hd (cv_one hC.2.2.2.2.2.2.2.2.2.1 h1) (hzz hv (vs_tl hs) H locs ls hP hS hl)
theorem ok_icmp_eq (hC : CX p R s m args c cc own nL cells slots D ad cy ex fm A sc) {pc : Nat} {lv : LV} {st : List AV} {hp : HP} {off : Int} {tg : List Nat} (hd : decode cc pc = .ok (.if_icmp .eq off, 3)) (ht : tg.map Int.ofNat = [(pc : Int) + off]) (h : pI st fun y r => pI r fun x r => tg1 tg fun t => (x = y → OK p l e R s m args below meth c nL cells slots Qs D ad cy ex fm A (t) lv r hp) ∧ (¬ x = y → OK p l e R s m args below meth c nL cells slots Qs D ad cy ex fm A (pc + 3) lv r hp)) : OK p l e R s m args below meth c nL cells slots Qs D ad cy ex fm A pc lv st hp := by
  intro hv hs H locs ls hP hS hl
  obtain ⟨y, r, rfl, hz⟩ := pI_e h
  obtain ⟨x, r, rfl, hzz⟩ := pI_e hz
  obtain ⟨t, rfl, h1, h2⟩ := tg1_e hzz
  exact lv_icmp_eq hC.1 hC.2.1 hd (List.cons.inj ht).1.symm (fun hc => h1 hc hv (vs_tl (vs_tl hs)) H locs ls hP hS hl) (fun hc => h2 hc hv (vs_tl (vs_tl hs)) H locs ls hP hS hl)
theorem ok_if_eq (hC : CX p R s m args c cc own nL cells slots D ad cy ex fm A sc) {pc : Nat} {lv : LV} {st : List AV} {hp : HP} {off : Int} {tg : List Nat} (hd : decode cc pc = .ok (.ifCond .eq off, 3)) (ht : tg.map Int.ofNat = [(pc : Int) + off]) (h : pI st fun x r => tg1 tg fun t => (x = 0 → OK p l e R s m args below meth c nL cells slots Qs D ad cy ex fm A (t) lv r hp) ∧ (¬ x = 0 → OK p l e R s m args below meth c nL cells slots Qs D ad cy ex fm A (pc + 3) lv r hp)) : OK p l e R s m args below meth c nL cells slots Qs D ad cy ex fm A pc lv st hp := by
  intro hv hs H locs ls hP hS hl
  obtain ⟨x, r, rfl, hz⟩ := pI_e h
  obtain ⟨t, rfl, h1, h2⟩ := tg1_e hz
  exact lv_if_eq hC.1 hC.2.1 hd (List.cons.inj ht).1.symm (fun hc => h1 hc hv (vs_tl hs) H locs ls hP hS hl) (fun hc => h2 hc hv (vs_tl hs) H locs ls hP hS hl)
theorem ok_icmp_ne (hC : CX p R s m args c cc own nL cells slots D ad cy ex fm A sc) {pc : Nat} {lv : LV} {st : List AV} {hp : HP} {off : Int} {tg : List Nat} (hd : decode cc pc = .ok (.if_icmp .ne off, 3)) (ht : tg.map Int.ofNat = [(pc : Int) + off]) (h : pI st fun y r => pI r fun x r => tg1 tg fun t => (¬ x = y → OK p l e R s m args below meth c nL cells slots Qs D ad cy ex fm A (t) lv r hp) ∧ (x = y → OK p l e R s m args below meth c nL cells slots Qs D ad cy ex fm A (pc + 3) lv r hp)) : OK p l e R s m args below meth c nL cells slots Qs D ad cy ex fm A pc lv st hp := by
  intro hv hs H locs ls hP hS hl
  obtain ⟨y, r, rfl, hz⟩ := pI_e h
  obtain ⟨x, r, rfl, hzz⟩ := pI_e hz
  obtain ⟨t, rfl, h1, h2⟩ := tg1_e hzz
  exact lv_icmp_ne hC.1 hC.2.1 hd (List.cons.inj ht).1.symm (fun hc => h1 hc hv (vs_tl (vs_tl hs)) H locs ls hP hS hl) (fun hc => h2 hc hv (vs_tl (vs_tl hs)) H locs ls hP hS hl)
theorem ok_if_ne (hC : CX p R s m args c cc own nL cells slots D ad cy ex fm A sc) {pc : Nat} {lv : LV} {st : List AV} {hp : HP} {off : Int} {tg : List Nat} (hd : decode cc pc = .ok (.ifCond .ne off, 3)) (ht : tg.map Int.ofNat = [(pc : Int) + off]) (h : pI st fun x r => tg1 tg fun t => (¬ x = 0 → OK p l e R s m args below meth c nL cells slots Qs D ad cy ex fm A (t) lv r hp) ∧ (x = 0 → OK p l e R s m args below meth c nL cells slots Qs D ad cy ex fm A (pc + 3) lv r hp)) : OK p l e R s m args below meth c nL cells slots Qs D ad cy ex fm A pc lv st hp := by
  intro hv hs H locs ls hP hS hl
  obtain ⟨x, r, rfl, hz⟩ := pI_e h
  obtain ⟨t, rfl, h1, h2⟩ := tg1_e hz
  exact lv_if_ne hC.1 hC.2.1 hd (List.cons.inj ht).1.symm (fun hc => h1 hc hv (vs_tl hs) H locs ls hP hS hl) (fun hc => h2 hc hv (vs_tl hs) H locs ls hP hS hl)
theorem ok_icmp_lt (hC : CX p R s m args c cc own nL cells slots D ad cy ex fm A sc) {pc : Nat} {lv : LV} {st : List AV} {hp : HP} {off : Int} {tg : List Nat} (hd : decode cc pc = .ok (.if_icmp .lt off, 3)) (ht : tg.map Int.ofNat = [(pc : Int) + off]) (h : pI st fun y r => pI r fun x r => tg1 tg fun t => (x < y → OK p l e R s m args below meth c nL cells slots Qs D ad cy ex fm A (t) lv r hp) ∧ (¬ x < y → OK p l e R s m args below meth c nL cells slots Qs D ad cy ex fm A (pc + 3) lv r hp)) : OK p l e R s m args below meth c nL cells slots Qs D ad cy ex fm A pc lv st hp := by
  intro hv hs H locs ls hP hS hl
  obtain ⟨y, r, rfl, hz⟩ := pI_e h
  obtain ⟨x, r, rfl, hzz⟩ := pI_e hz
  obtain ⟨t, rfl, h1, h2⟩ := tg1_e hzz
  exact lv_icmp_lt hC.1 hC.2.1 hd (List.cons.inj ht).1.symm (fun hc => h1 hc hv (vs_tl (vs_tl hs)) H locs ls hP hS hl) (fun hc => h2 hc hv (vs_tl (vs_tl hs)) H locs ls hP hS hl)
theorem ok_if_lt (hC : CX p R s m args c cc own nL cells slots D ad cy ex fm A sc) {pc : Nat} {lv : LV} {st : List AV} {hp : HP} {off : Int} {tg : List Nat} (hd : decode cc pc = .ok (.ifCond .lt off, 3)) (ht : tg.map Int.ofNat = [(pc : Int) + off]) (h : pI st fun x r => tg1 tg fun t => (x < 0 → OK p l e R s m args below meth c nL cells slots Qs D ad cy ex fm A (t) lv r hp) ∧ (¬ x < 0 → OK p l e R s m args below meth c nL cells slots Qs D ad cy ex fm A (pc + 3) lv r hp)) : OK p l e R s m args below meth c nL cells slots Qs D ad cy ex fm A pc lv st hp := by
  intro hv hs H locs ls hP hS hl
  obtain ⟨x, r, rfl, hz⟩ := pI_e h
  obtain ⟨t, rfl, h1, h2⟩ := tg1_e hz
  exact lv_if_lt hC.1 hC.2.1 hd (List.cons.inj ht).1.symm (fun hc => h1 hc hv (vs_tl hs) H locs ls hP hS hl) (fun hc => h2 hc hv (vs_tl hs) H locs ls hP hS hl)
theorem ok_icmp_ge (hC : CX p R s m args c cc own nL cells slots D ad cy ex fm A sc) {pc : Nat} {lv : LV} {st : List AV} {hp : HP} {off : Int} {tg : List Nat} (hd : decode cc pc = .ok (.if_icmp .ge off, 3)) (ht : tg.map Int.ofNat = [(pc : Int) + off]) (h : pI st fun y r => pI r fun x r => tg1 tg fun t => (y ≤ x → OK p l e R s m args below meth c nL cells slots Qs D ad cy ex fm A (t) lv r hp) ∧ (¬ y ≤ x → OK p l e R s m args below meth c nL cells slots Qs D ad cy ex fm A (pc + 3) lv r hp)) : OK p l e R s m args below meth c nL cells slots Qs D ad cy ex fm A pc lv st hp := by
  intro hv hs H locs ls hP hS hl
  obtain ⟨y, r, rfl, hz⟩ := pI_e h
  obtain ⟨x, r, rfl, hzz⟩ := pI_e hz
  obtain ⟨t, rfl, h1, h2⟩ := tg1_e hzz
  exact lv_icmp_ge hC.1 hC.2.1 hd (List.cons.inj ht).1.symm (fun hc => h1 hc hv (vs_tl (vs_tl hs)) H locs ls hP hS hl) (fun hc => h2 hc hv (vs_tl (vs_tl hs)) H locs ls hP hS hl)
theorem ok_if_ge (hC : CX p R s m args c cc own nL cells slots D ad cy ex fm A sc) {pc : Nat} {lv : LV} {st : List AV} {hp : HP} {off : Int} {tg : List Nat} (hd : decode cc pc = .ok (.ifCond .ge off, 3)) (ht : tg.map Int.ofNat = [(pc : Int) + off]) (h : pI st fun x r => tg1 tg fun t => (0 ≤ x → OK p l e R s m args below meth c nL cells slots Qs D ad cy ex fm A (t) lv r hp) ∧ (¬ 0 ≤ x → OK p l e R s m args below meth c nL cells slots Qs D ad cy ex fm A (pc + 3) lv r hp)) : OK p l e R s m args below meth c nL cells slots Qs D ad cy ex fm A pc lv st hp := by
  intro hv hs H locs ls hP hS hl
  obtain ⟨x, r, rfl, hz⟩ := pI_e h
  obtain ⟨t, rfl, h1, h2⟩ := tg1_e hz
  exact lv_if_ge hC.1 hC.2.1 hd (List.cons.inj ht).1.symm (fun hc => h1 hc hv (vs_tl hs) H locs ls hP hS hl) (fun hc => h2 hc hv (vs_tl hs) H locs ls hP hS hl)
theorem ok_icmp_gt (hC : CX p R s m args c cc own nL cells slots D ad cy ex fm A sc) {pc : Nat} {lv : LV} {st : List AV} {hp : HP} {off : Int} {tg : List Nat} (hd : decode cc pc = .ok (.if_icmp .gt off, 3)) (ht : tg.map Int.ofNat = [(pc : Int) + off]) (h : pI st fun y r => pI r fun x r => tg1 tg fun t => (y < x → OK p l e R s m args below meth c nL cells slots Qs D ad cy ex fm A (t) lv r hp) ∧ (¬ y < x → OK p l e R s m args below meth c nL cells slots Qs D ad cy ex fm A (pc + 3) lv r hp)) : OK p l e R s m args below meth c nL cells slots Qs D ad cy ex fm A pc lv st hp := by
  intro hv hs H locs ls hP hS hl
  obtain ⟨y, r, rfl, hz⟩ := pI_e h
  obtain ⟨x, r, rfl, hzz⟩ := pI_e hz
  obtain ⟨t, rfl, h1, h2⟩ := tg1_e hzz
  exact lv_icmp_gt hC.1 hC.2.1 hd (List.cons.inj ht).1.symm (fun hc => h1 hc hv (vs_tl (vs_tl hs)) H locs ls hP hS hl) (fun hc => h2 hc hv (vs_tl (vs_tl hs)) H locs ls hP hS hl)
theorem ok_if_gt (hC : CX p R s m args c cc own nL cells slots D ad cy ex fm A sc) {pc : Nat} {lv : LV} {st : List AV} {hp : HP} {off : Int} {tg : List Nat} (hd : decode cc pc = .ok (.ifCond .gt off, 3)) (ht : tg.map Int.ofNat = [(pc : Int) + off]) (h : pI st fun x r => tg1 tg fun t => (0 < x → OK p l e R s m args below meth c nL cells slots Qs D ad cy ex fm A (t) lv r hp) ∧ (¬ 0 < x → OK p l e R s m args below meth c nL cells slots Qs D ad cy ex fm A (pc + 3) lv r hp)) : OK p l e R s m args below meth c nL cells slots Qs D ad cy ex fm A pc lv st hp := by
  intro hv hs H locs ls hP hS hl
  obtain ⟨x, r, rfl, hz⟩ := pI_e h
  obtain ⟨t, rfl, h1, h2⟩ := tg1_e hz
  exact lv_if_gt hC.1 hC.2.1 hd (List.cons.inj ht).1.symm (fun hc => h1 hc hv (vs_tl hs) H locs ls hP hS hl) (fun hc => h2 hc hv (vs_tl hs) H locs ls hP hS hl)
theorem ok_icmp_le (hC : CX p R s m args c cc own nL cells slots D ad cy ex fm A sc) {pc : Nat} {lv : LV} {st : List AV} {hp : HP} {off : Int} {tg : List Nat} (hd : decode cc pc = .ok (.if_icmp .le off, 3)) (ht : tg.map Int.ofNat = [(pc : Int) + off]) (h : pI st fun y r => pI r fun x r => tg1 tg fun t => (x ≤ y → OK p l e R s m args below meth c nL cells slots Qs D ad cy ex fm A (t) lv r hp) ∧ (¬ x ≤ y → OK p l e R s m args below meth c nL cells slots Qs D ad cy ex fm A (pc + 3) lv r hp)) : OK p l e R s m args below meth c nL cells slots Qs D ad cy ex fm A pc lv st hp := by
  intro hv hs H locs ls hP hS hl
  obtain ⟨y, r, rfl, hz⟩ := pI_e h
  obtain ⟨x, r, rfl, hzz⟩ := pI_e hz
  obtain ⟨t, rfl, h1, h2⟩ := tg1_e hzz
  exact lv_icmp_le hC.1 hC.2.1 hd (List.cons.inj ht).1.symm (fun hc => h1 hc hv (vs_tl (vs_tl hs)) H locs ls hP hS hl) (fun hc => h2 hc hv (vs_tl (vs_tl hs)) H locs ls hP hS hl)
theorem ok_if_le (hC : CX p R s m args c cc own nL cells slots D ad cy ex fm A sc) {pc : Nat} {lv : LV} {st : List AV} {hp : HP} {off : Int} {tg : List Nat} (hd : decode cc pc = .ok (.ifCond .le off, 3)) (ht : tg.map Int.ofNat = [(pc : Int) + off]) (h : pI st fun x r => tg1 tg fun t => (x ≤ 0 → OK p l e R s m args below meth c nL cells slots Qs D ad cy ex fm A (t) lv r hp) ∧ (¬ x ≤ 0 → OK p l e R s m args below meth c nL cells slots Qs D ad cy ex fm A (pc + 3) lv r hp)) : OK p l e R s m args below meth c nL cells slots Qs D ad cy ex fm A pc lv st hp := by
  intro hv hs H locs ls hP hS hl
  obtain ⟨x, r, rfl, hz⟩ := pI_e h
  obtain ⟨t, rfl, h1, h2⟩ := tg1_e hz
  exact lv_if_le hC.1 hC.2.1 hd (List.cons.inj ht).1.symm (fun hc => h1 hc hv (vs_tl hs) H locs ls hP hS hl) (fun hc => h2 hc hv (vs_tl hs) H locs ls hP hS hl)
theorem ok_goto (hC : CX p R s m args c cc own nL cells slots D ad cy ex fm A sc) {pc : Nat} {lv : LV} {st : List AV} {hp : HP} {off : Int} {tg : List Nat} (hd : decode cc pc = .ok (.goto off, 3)) (ht : tg.map Int.ofNat = [(pc : Int) + off]) (h : tg1 tg fun t => OK p l e R s m args below meth c nL cells slots Qs D ad cy ex fm A (t) lv st hp) : OK p l e R s m args below meth c nL cells slots Qs D ad cy ex fm A pc lv st hp := by
  intro hv hs H locs ls hP hS hl
  obtain ⟨t, rfl, hz⟩ := tg1_e h
  exact lv_goto hC.1 hC.2.1 hd (List.cons.inj ht).1.symm (hz hv hs H locs ls hP hS hl)
theorem ok_table (hC : CX p R s m args c cc own nL cells slots D ad cy ex fm A sc) {pc : Nat} {lv : LV} {st : List AV} {hp : HP} {d lo hi : Int} {offs : Array Int} {len : Nat} {tg : List Nat} (hd : decode cc pc = .ok (.tableswitch d lo hi offs, len)) (ht : tg.map Int.ofNat = ((pc : Int) + d) :: offs.toList.map (fun o => (pc : Int) + o)) (hlen : (offs.toList.length : Int) = hi - lo + 1)
    (h : pI st fun x r => swg tg fun t ts => swt x (fun t => OK p l e R s m args below meth c nL cells slots Qs D ad cy ex fm A t lv r hp) lo hi t ts lo) : OK p l e R s m args below meth c nL cells slots Qs D ad cy ex fm A pc lv st hp := by
  intro hv hs H locs ls hP hS hl
  obtain ⟨x, r, e1, h1⟩ := pI_e h
  subst e1
  match tg, ht, h1 with
  | [], _, h1 => exact h1.elim
  | t :: ts, ht, h1 =>
    have h1 : swt x _ lo hi t ts lo := h1
    have ht0 := (List.cons.inj ht).1
    have hts := (List.cons.inj ht).2
    have key : ∀ (us : List Nat) (k : Int) (G : Nat → Prop), swt x G lo hi t us k → (∀ (j : Nat) (u : Nat), us[j]? = some u → x.toInt = k + j → G u) ∧ ((x.toInt < lo ∨ hi < x.toInt) → G t) := by
      intro us
      induction us with
      | nil => intro k G h; exact ⟨fun j u hj => by simp at hj, h⟩
      | cons u us ih =>
        intro k G h
        obtain ⟨a1, a2⟩ := h
        obtain ⟨b1, b2⟩ := ih (k + 1) G a2
        refine ⟨fun j v hj hx => ?_, b2⟩
        cases j with
        | zero =>
          rw [List.getElem?_cons_zero] at hj
          cases hj
          exact a1 (by rw [hx]; simp)
        | succ j =>
          rw [List.getElem?_cons_succ] at hj
          exact b1 j v hj (by rw [hx]; push_cast; omega)
    obtain ⟨k1, k2⟩ := key ts lo _ h1
    by_cases hx : x.toInt < lo ∨ hi < x.toInt
    · exact lv_tableOut hC.1 hC.2.1 hd hx ht0.symm (k2 hx hv (vs_tl hs) H locs ls hP hS hl)
    · have hx1 : ¬ x.toInt < lo := fun h => hx (Or.inl h)
      have hx2 : ¬ hi < x.toInt := fun h => hx (Or.inr h)
      have hl1 : ts.length = offs.toList.length := by
        have := congrArg List.length hts
        rw [List.length_map, List.length_map] at this
        exact this
      have hj : (x.toInt - lo).toNat < offs.toList.length := by omega
      have hj2 : (x.toInt - lo).toNat < ts.length := by omega
      have hu : ts[(x.toInt - lo).toNat]? = some ts[(x.toInt - lo).toNat] := List.getElem?_eq_getElem hj2
      have ho : offs[(x.toInt - lo).toNat]? = some offs.toList[(x.toInt - lo).toNat] := by
        rw [← Array.getElem?_toList]
        exact List.getElem?_eq_getElem hj
      refine lv_tableIn hC.1 hC.2.1 hd hx1 hx2 ho (tgt := ts[(x.toInt - lo).toNat]) ?_ (k1 _ _ hu (by omega) hv (vs_tl hs) H locs ls hP hS hl)
      have h9 : (ts.map Int.ofNat)[(x.toInt - lo).toNat]? = (offs.toList.map (fun o => (pc : Int) + o))[(x.toInt - lo).toNat]? := by rw [hts]
      rw [List.getElem?_map, List.getElem?_map, hu, List.getElem?_eq_getElem hj] at h9
      exact (Option.some.inj h9).symm
theorem ok_getfield (hC : CX p R s m args c cc own nL cells slots D ad cy ex fm A sc) {pc : Nat} {lv : LV} {st : List AV} {hp : HP} {n : Nat} {K : LKS} (hK : lkok own K) (hd : decode cc pc = .ok (.getfield n, 3))
    (h : pA st (fun k c2 r => fsh K.1 n k fun j f => gtf hp c2 j f fun v => OK p l e R s m args below meth c nL cells slots Qs D ad cy ex fm A (pc + 3) lv (v :: r) hp) (fun n2 r => match n2 with | m2 + 10 => txok m2 ∧ (match lk K.2.2.2.2.2 n with | some 0 => OK p l e R s m args below meth c nL cells slots Qs D ad cy ex fm A (pc + 3) lv (vX (m2 + 11) :: r) hp | some _ => OK p l e R s m args below meth c nL cells slots Qs D ad cy ex fm A (pc + 3) lv (vI 0 :: r) hp | none => False) | _ => False)) : OK p l e R s m args below meth c nL cells slots Qs D ad cy ex fm A pc lv st hp := by
  intro hv hs H locs ls hP hS hl
  rcases pA_e h with ⟨k, q, r, e1, h1⟩ | ⟨n2, r, e1, h1⟩
  · subst e1
    obtain ⟨j, o, f, hm, ho, hf, h2⟩ := fsh_e h1
    obtain ⟨C, T, N, ⟨o2, ty0, k1, k2, k3, k4, k5, k6, k7, k8⟩, hj, hlink⟩ := hK.1 _ hm
    dsimp only at k1 hj hlink
    rw [ho] at k1
    cases k1
    have hvr := vs_hd hs
    have he := ab_obj (ad := ad) (cy := cy) (hp := hp) hvr ho
    have hg := ab_fs_get ad hp q o.2 0 j f hf
    rw [Nat.zero_add] at hg
    have hsame : ∀ x, s.fieldFound? (T j).1 (T j).2.1 (T j).2.2.1 = some x → s.fieldFound? C (T j).2.1 (T j).2.2.1 = some x := fun x hx => by rw [k7 j hj] at hx; exact hx
    refine va_get (D := D) (ci := o.1) hC.1 hC.2.1 hC.2.2.2.2.1 k4 hC.2.2.2.1 hC.2.2.2.2.2.1 hP q he k2 j hj (hC.2.2.2.2.1 _ hlink) hsame hg hd ?_
    have hmem : f ∈ o.2 := by rw [nth_get] at hf; exact List.mem_of_getElem? hf
    have htag := ab_tag q hvr.1 o (by rw [show kc q = k from hvr.2]; exact ho) f hmem
    have hfl := ab_fld q hvr.1 o (by rw [show kc q = k from hvr.2]; exact ho) f hmem
    obtain ⟨t, a, b⟩ := f
    match t, htag, h2, hfl with
    | 0, _, h2, _ => exact h2 hv (vs_cn trivial (vs_tl hs)) H locs ls hP hS hl
    | 1, _, h2, _ => exact h2 hv (vs_cn trivial (vs_tl hs)) H locs ls hP hS hl
    | 2, _, h2, _ => exact h2 hv (vs_cn trivial (vs_tl hs)) H locs ls hP hS hl
    | 3, _, h2, hfl => exact h2 hv (vs_cn (hfl rfl) (vs_tl hs)) H locs ls hP hS hl
  · subst e1
    match n2, h1 with
    | m2 + 10, ⟨hm, h2⟩ =>
      obtain ⟨-, x2, x3, -⟩ := hC.2.2.2.2.2.2.2.2.1.2.2.2.1 m2 hm
      split at h2
      · next hx =>
        rcases hK.2.2.2.2.2 _ (lk_mem hx) with ⟨-, hl1⟩ | ⟨hn, -⟩
        · exact vk_getf hC.1 hC.2.1 x3 hS hC.2.2.2.1 (hC.2.2.2.2.1 _ hl1) (fun _ h9 => h9) hd (h2 hv (vs_cn trivial (vs_tl hs)) H locs ls hP hS hl)
        · cases hn
      · next z hz hx =>
        rcases hK.2.2.2.2.2 _ (lk_mem hx) with ⟨hn, -⟩ | ⟨-, hl1⟩
        · exact absurd hn hz
        · exact vk_getf hC.1 hC.2.1 x2 hS hC.2.2.2.1 (hC.2.2.2.2.1 _ hl1) (fun _ h9 => h9) hd (h2 hv (vs_cn trivial (vs_tl hs)) H locs ls hP hS hl)
      · exact h2.elim
    | 0, h1 => exact h1.elim
    | 1, h1 => exact h1.elim
    | 2, h1 => exact h1.elim
    | 3, h1 => exact h1.elim
    | 4, h1 => exact h1.elim
    | 5, h1 => exact h1.elim
    | 6, h1 => exact h1.elim
    | 7, h1 => exact h1.elim
    | 8, h1 => exact h1.elim
    | 9, h1 => exact h1.elim
theorem ok_putfield (hC : CX p R s m args c cc own nL cells slots D ad cy ex fm A sc) {pc : Nat} {lv : LV} {st : List AV} {hp : HP} {n : Nat} {K : LKS} (hK : lkok own K) (hd : decode cc pc = .ok (.putfield n, 3))
    (h : pV st fun v r => pR r fun k c2 r => fsh K.1 n k fun j f => ptf hp c2 j f v fun hq => OK p l e R s m args below meth c nL cells slots Qs D ad cy ex fm A (pc + 3) lv r hq) : OK p l e R s m args below meth c nL cells slots Qs D ad cy ex fm A pc lv st hp := by
  intro hv hs H locs ls hP hS hl
  obtain ⟨v, r, e1, h0⟩ := pV_e h
  subst e1
  obtain ⟨k, q, r, e1, h1⟩ := pR_e h0
  subst e1
  obtain ⟨j, o, f, hm, ho, hf, h2⟩ := fsh_e h1
  obtain ⟨C, T, N, ⟨o2, ty0, k1, k2, k3, k4, k5, k6, k7, k8⟩, hj, hlink⟩ := hK.1 _ hm
  dsimp only at k1 hj hlink
  rw [ho] at k1
  cases k1
  have hvr := vs_hd (vs_tl hs)
  have he := ab_obj (ad := ad) (cy := cy) (hp := hp) hvr ho
  have hsame : ∀ x, s.fieldFound? (T j).1 (T j).2.1 (T j).2.2.1 = some x → s.fieldFound? C (T j).2.1 (T j).2.2.1 = some x := fun x hx => by rw [k7 j hj] at hx; exact hx
  have hDD := ab_K (ad := ad) (cy := cy) (hp := hp) hC.2.2.2.2.2.2.1 hC.2.2.2.2.2.2.2.1
  have hlen : j < (ab_fs ad hp q 0 o.2).length := by rw [ab_fs_len, k3]; exact hj
  have hsh := k8 j hj f hf
  have hent : ∀ hq : HP, ab_ent ad cy hq (kc q) q = .inr (o.1, ab_fs ad hq q 0 o.2) := by
    intro hq
    unfold ab_ent
    rw [show kc q = k from hvr.2, ho]
  have fin : ∀ (hq : HP) (w : Value) (ty : FieldType), ty0 j = ty → (T j).2.2.2 = false → cv ad ex fm v = w → narrow ty w = w → fits ty w = true → (∀ d, d ≠ q → hq.1 d = hp.1 d ∧ hq.2 d = hp.2 d) → ab_fv ad hq q f (0 + j) = w → (∀ i, i ≠ 0 + j → hq.1 q i = hp.1 q i ∧ hq.2 q i = hp.2 q i) → OK p l e R s m args below meth c nL cells slots Qs D ad cy ex fm A (pc + 3) lv r hq → W p l e R s m args below meth c H locs cells slots Qs (F0 m pc ls ((v :: vR k q :: r).map (cv ad ex fm))) := by
    intro hq w ty hty hfin hw hn hft hrow hfv hrest hgo
    show W p l e R s m args below meth c H locs cells slots Qs (F0 m pc ls (cv ad ex fm v :: .ref (ad q) :: r.map (cv ad ex fm)))
    rw [hw]
    refine va_put (D := D) (ci := o.1) (ty := ty) hC.1 hC.2.1 hC.2.2.2.2.1 k4 ty0 k5 k6 hC.2.2.2.1 hC.2.2.2.2.2.1 hP hDD hS q he k2 j hj (hC.2.2.2.2.1 _ hlink) hsame hfin (by rw [← hty]; exact k5 j hj) hn hft hlen hd (fun H1 locs1 hP1 _ hS1 => ?_)
    refine hgo hv (vs_tl (vs_tl hs)) H1 locs1 ls ?_ hS1 hl
    refine ab_put hvr.1 hrow ?_ hP1
    rw [hent hq, ab_fs_set ad (hp := hp) (v := w) o.2 0 j f hf hfv hrest]
  obtain ⟨t, a, b⟩ := f
  match t, v, h2, hsh, fin with
  | 0, .inl x, h2, hsh, fin =>
    refine fin (uI hp q j x) (.int x) .int hsh.1 hsh.2 rfl rfl rfl (fun d hd => ⟨rI_ne hp _ hd, rfl⟩) ?_ (fun i hi => ⟨?_, rfl⟩) h2
    · show Value.int ((rI hp q (upd (hp.1 q) j x)).1 q (0 + j)) = _
      rw [rI_eq, Nat.zero_add, pk_us]
    · show (rI hp q (upd (hp.1 q) j x)).1 q i = _
      rw [rI_eq, pk_un (by omega)]
  | 1, .inr (.inl x), h2, hsh, fin =>
    refine fin (uL hp q j x) (.long x) .long hsh.1 hsh.2 rfl rfl rfl (fun d hd => ⟨rfl, rL_ne hp _ hd⟩) ?_ (fun i hi => ⟨rfl, ?_⟩) h2
    · show Value.long ((rL hp q (vp_updL (hp.2 q) j x)).2 q (0 + j)) = _
      rw [rL_eq, Nat.zero_add, pk_uLs]
    · show (rL hp q (vp_updL (hp.2 q) j x)).2 q i = _
      rw [rL_eq, pk_uLn (by omega)]
  | 2, .inl x, ⟨hb, h2⟩, hsh, fin =>
    refine fin (uI hp q j x) (.int x) .boolean hsh.1 hsh.2 rfl (by rcases hb with rfl | rfl <;> rfl) (by rcases hb with rfl | rfl <;> rfl) (fun d hd => ⟨rI_ne hp _ hd, rfl⟩) ?_ (fun i hi => ⟨?_, rfl⟩) h2
    · show Value.int ((rI hp q (upd (hp.1 q) j x)).1 q (0 + j)) = _
      rw [rI_eq, Nat.zero_add, pk_us]
    · show (rI hp q (upd (hp.1 q) j x)).1 q i = _
      rw [rI_eq, pk_un (by omega)]
  | 0, .inr _, h2, _, _ => exact h2.elim
  | 1, .inl _, h2, _, _ => exact h2.elim
  | 1, .inr (.inr _), h2, _, _ => exact h2.elim
  | 2, .inr _, h2, _, _ => exact h2.elim
  | t + 3, v, h2, _, _ => exact h2.elim
theorem ok_iaload (hC : CX p R s m args c cc own nL cells slots D ad cy ex fm A sc) {pc : Nat} {lv : LV} {st : List AV} {hp : HP} (hd : decode cc pc = .ok (.iaload, 1))
    (h : pI st fun i r => pA r (fun k c2 r => ash k 0 fun n => vp_in i n ∧ OK p l e R s m args below meth c nL cells slots Qs D ad cy ex fm A (pc + 1) lv (vI (hp.1 c2 i.toNatClampNeg) :: r) hp) (fun n r => match n with | 1 => scq sc fun q => vp_in i q.1 ∧ OK p l e R s m args below meth c nL cells slots Qs D ad cy ex fm A (pc + 1) lv (vI (q.2 i.toNatClampNeg) :: r) hp | 2 => vp_in i 6 ∧ OK p l e R s m args below meth c nL cells slots Qs D ad cy ex fm A (pc + 1) lv (vI (kab i.toNatClampNeg) :: r) hp | _ => False)) : OK p l e R s m args below meth c nL cells slots Qs D ad cy ex fm A pc lv st hp := by
  intro hv hs H locs ls hP hS hl
  obtain ⟨i, r, e1, h0⟩ := pI_e h
  subst e1
  rcases pA_e h0 with ⟨k, q, r, e1, h1⟩ | ⟨n2, r, e1, h1⟩
  · subst e1
    obtain ⟨a, ha, hat, hin, h2⟩ := ash_e h1
    have hvr := vs_hd (vs_tl hs)
    have he := ab_row (ad := ad) (cy := cy) (hp := hp) hvr ha
    rw [ab_ar0 hat] at he
    exact va_iald hC.1 hC.2.1 hC.2.2.2.2.2.1 hP q 0 he rfl hin hd (h2 hv (vs_cn trivial (vs_tl (vs_tl hs))) H locs ls hP hS hl)
  · subst e1
    match n2, h1 with
    | 0, h1 => exact h1.elim
    | 1, h1 =>
      obtain ⟨q, hsc, h2⟩ := scq_e h1
      obtain ⟨x1, x2, x3⟩ := hC.2.2.2.2.2.2.2.2.2.2.2 q hsc
      exact va_sld hC.1 hC.2.1 x1 x2 x3 hS h2.1 hd (h2.2 hv (vs_cn trivial (vs_tl (vs_tl hs))) H locs ls hP hS hl)
    | 2, h1 => exact va_ti hC.1 hC.2.1 hC.2.2.2.2.2.2.2.2.1.1.1 hS h1.1 rfl hd (h1.2 hv (vs_cn trivial (vs_tl (vs_tl hs))) H locs ls hP hS hl)
    | n2 + 3, h1 => exact h1.elim
theorem ok_laload (hC : CX p R s m args c cc own nL cells slots D ad cy ex fm A sc) {pc : Nat} {lv : LV} {st : List AV} {hp : HP} (hd : decode cc pc = .ok (.laload, 1))
    (h : pI st fun i r => pR r fun k c2 r => ash k 1 fun n => vp_in i n ∧ OK p l e R s m args below meth c nL cells slots Qs D ad cy ex fm A (pc + 1) lv (vL (hp.2 c2 i.toNatClampNeg) :: r) hp) : OK p l e R s m args below meth c nL cells slots Qs D ad cy ex fm A pc lv st hp := by
  intro hv hs H locs ls hP hS hl
  obtain ⟨i, r, e1, h0⟩ := pI_e h
  subst e1
  obtain ⟨k, q, r, e1, h1⟩ := pR_e h0
  subst e1
  obtain ⟨a, ha, hat, hin, h2⟩ := ash_e h1
  have hvr := vs_hd (vs_tl hs)
  have he := ab_row (ad := ad) (cy := cy) (hp := hp) hvr ha
  rw [ab_ar1 hat] at he
  exact va_lald hC.1 hC.2.1 hC.2.2.2.2.2.1 hP q 1 he rfl hin hd (h2 hv (vs_cn trivial (vs_tl (vs_tl hs))) H locs ls hP hS hl)
theorem ok_baload (hC : CX p R s m args c cc own nL cells slots D ad cy ex fm A sc) {pc : Nat} {lv : LV} {st : List AV} {hp : HP} (hd : decode cc pc = .ok (.baload, 1))
    (h : pI st fun i r => pA r (fun k c2 r => ash k 2 fun n => vp_in i n ∧ OK p l e R s m args below meth c nL cells slots Qs D ad cy ex fm A (pc + 1) lv (vI (hp.1 c2 i.toNatClampNeg) :: r) hp) (fun n r => match n with | m2 + 11 => (txok m2 ∧ vp_in i (tx_n m2)) ∧ OK p l e R s m args below meth c nL cells slots Qs D ad cy ex fm A (pc + 1) lv (vI (tx_b m2 i.toNatClampNeg) :: r) hp | _ => False)) : OK p l e R s m args below meth c nL cells slots Qs D ad cy ex fm A pc lv st hp := by
  intro hv hs H locs ls hP hS hl
  obtain ⟨i, r, e1, h0⟩ := pI_e h
  subst e1
  rcases pA_e h0 with ⟨k, q, r, e1, h1⟩ | ⟨n2, r, e1, h1⟩
  · subst e1
    obtain ⟨a, ha, hat, hin, h2⟩ := ash_e h1
    have hvr := vs_hd (vs_tl hs)
    have he := ab_row (ad := ad) (cy := cy) (hp := hp) hvr ha
    rw [ab_ar2 hat] at he
    exact va_bald hC.1 hC.2.1 hC.2.2.2.2.2.1 hP q 2 he rfl hin hd (h2 hv (vs_cn trivial (vs_tl (vs_tl hs))) H locs ls hP hS hl)
  · subst e1
    by_cases hn : 11 ≤ n2
    · obtain ⟨m2, rfl⟩ : ∃ m2, n2 = m2 + 11 := ⟨n2 - 11, by omega⟩
      obtain ⟨⟨hm, hin⟩, h2⟩ := h1
      obtain ⟨-, -, -, x4⟩ := hC.2.2.2.2.2.2.2.2.1.2.2.2.1 m2 hm
      exact va_tb hC.1 hC.2.1 x4 hS hin rfl hd (h2 hv (vs_cn trivial (vs_tl (vs_tl hs))) H locs ls hP hS hl)
    · have : n2 = 0 ∨ n2 = 1 ∨ n2 = 2 ∨ n2 = 3 ∨ n2 = 4 ∨ n2 = 5 ∨ n2 = 6 ∨ n2 = 7 ∨ n2 = 8 ∨ n2 = 9 ∨ n2 = 10 := by omega
      rcases this with rfl | rfl | rfl | rfl | rfl | rfl | rfl | rfl | rfl | rfl | rfl <;> exact h1.elim
theorem ok_aaload (hC : CX p R s m args c cc own nL cells slots D ad cy ex fm A sc) {pc : Nat} {lv : LV} {st : List AV} {hp : HP} (hd : decode cc pc = .ok (.aaload, 1))
    (h : pI st fun i r => pR r fun k c2 r => arf k fun n k2 d => vp_in i n ∧ OK p l e R s m args below meth c nL cells slots Qs D ad cy ex fm A (pc + 1) lv (vR k2 (c2 + d + i.toNatClampNeg) :: r) hp) : OK p l e R s m args below meth c nL cells slots Qs D ad cy ex fm A pc lv st hp := by
  intro hv hs H locs ls hP hS hl
  obtain ⟨i, r, e1, h0⟩ := pI_e h
  subst e1
  obtain ⟨k, q, r, e1, h1⟩ := pR_e h0
  subst e1
  obtain ⟨a, ha, hat, hin, h2⟩ := arf_e h1
  have hvr := vs_hd (vs_tl hs)
  have he := ab_row (ad := ad) (cy := cy) (hp := hp) hvr ha
  obtain ⟨h34, hcl⟩ := ab_arr q hvr.1 a (by rw [show kc q = k from hvr.2]; exact ha) hat
  rw [ab_ar3 h34] at he
  have hi : i.toNatClampNeg < a.2.1 := by
    have := (not_or.mp hin).2
    omega
  have hnew : vld (vR a.2.2.1 (q + a.2.2.2 + i.toNatClampNeg)) := hcl _ hi
  rcases h34 with h3 | h3
  · rw [h3] at he
    exact va_aldq hC.1 hC.2.1 hC.2.2.2.2.2.1 hP q 3 (C := "SleepWard$Walker") he rfl hin hd (h2 hv (vs_cn hnew (vs_tl (vs_tl hs))) H locs ls hP hS hl)
  · rw [h3] at he
    exact va_aldq hC.1 hC.2.1 hC.2.2.2.2.2.1 hP q 4 (C := "SleepWard$Sheet") he rfl hin hd (h2 hv (vs_cn hnew (vs_tl (vs_tl hs))) H locs ls hP hS hl)
theorem ab_rowq {hq : HP} {k q : Nat} {a : Nat × Nat × Nat × Nat} (hv : vld (vR k q)) (ho : kd k = .inr a) : ab_ent ad cy hq (kc q) q = ab_ar ad cy hq q a := by
  unfold ab_ent
  rw [show kc q = k from hv.2, ho]
theorem ok_iastore (hC : CX p R s m args c cc own nL cells slots D ad cy ex fm A sc) {pc : Nat} {lv : LV} {st : List AV} {hp : HP} (hd : decode cc pc = .ok (.iastore, 1))
    (h : pI st fun x r => pI r fun i r => pR r fun k c2 r => ash k 0 fun n => vp_in i n ∧ OK p l e R s m args below meth c nL cells slots Qs D ad cy ex fm A (pc + 1) lv r (uI hp c2 i.toNatClampNeg x)) : OK p l e R s m args below meth c nL cells slots Qs D ad cy ex fm A pc lv st hp := by
  intro hv hs H locs ls hP hS hl
  obtain ⟨x, r, e1, h0⟩ := pI_e h
  subst e1
  obtain ⟨i, r, e1, h3⟩ := pI_e h0
  subst e1
  obtain ⟨k, q, r, e1, h1⟩ := pR_e h3
  subst e1
  obtain ⟨a, ha, hat, hin, h2⟩ := ash_e h1
  have hvr := vs_hd (vs_tl (vs_tl hs))
  have he := ab_row (ad := ad) (cy := cy) (hp := hp) hvr ha
  rw [ab_ar0 hat] at he
  have hDD := ab_K (ad := ad) (cy := cy) (hp := hp) hC.2.2.2.2.2.2.1 hC.2.2.2.2.2.2.2.1
  refine va_iast hC.1 hC.2.1 hC.2.2.2.2.2.1 hP hDD hS q 0 he rfl hin hd (fun H1 locs1 hP1 _ hS1 => ?_)
  refine h2 hv (vs_tl (vs_tl (vs_tl hs))) H1 locs1 ls (ab_put (hp := hp) hvr.1 (fun d hd => ⟨rI_ne hp _ hd, rfl⟩) ?_ hP1) hS1 hl
  rw [ab_rowq hvr ha, ab_ar0 hat]
  show Sum.inl (cy 0, a.2.1, Sum.inl ((rI hp q _).1 q)) = _
  rw [rI_eq]
theorem ok_bastore (hC : CX p R s m args c cc own nL cells slots D ad cy ex fm A sc) {pc : Nat} {lv : LV} {st : List AV} {hp : HP} (hd : decode cc pc = .ok (.bastore, 1))
    (h : pI st fun x r => pI r fun i r => pR r fun k c2 r => ash k 2 fun n => vp_in i n ∧ OK p l e R s m args below meth c nL cells slots Qs D ad cy ex fm A (pc + 1) lv r (uI hp c2 i.toNatClampNeg x.toInt8.toInt32)) : OK p l e R s m args below meth c nL cells slots Qs D ad cy ex fm A pc lv st hp := by
  intro hv hs H locs ls hP hS hl
  obtain ⟨x, r, e1, h0⟩ := pI_e h
  subst e1
  obtain ⟨i, r, e1, h3⟩ := pI_e h0
  subst e1
  obtain ⟨k, q, r, e1, h1⟩ := pR_e h3
  subst e1
  obtain ⟨a, ha, hat, hin, h2⟩ := ash_e h1
  have hvr := vs_hd (vs_tl (vs_tl hs))
  have he := ab_row (ad := ad) (cy := cy) (hp := hp) hvr ha
  rw [ab_ar2 hat] at he
  have hDD := ab_K (ad := ad) (cy := cy) (hp := hp) hC.2.2.2.2.2.2.1 hC.2.2.2.2.2.2.2.1
  refine va_bast hC.1 hC.2.1 hC.2.2.2.2.2.1 hP hDD hS q 2 he rfl hin hd (fun H1 locs1 hP1 _ hS1 => ?_)
  refine h2 hv (vs_tl (vs_tl (vs_tl hs))) H1 locs1 ls (ab_put (hp := hp) hvr.1 (fun d hd => ⟨rI_ne hp _ hd, rfl⟩) ?_ hP1) hS1 hl
  rw [ab_rowq hvr ha, ab_ar2 hat, vp_nar_byte]
  show Sum.inl (cy 2, a.2.1, Sum.inl ((rI hp q _).1 q)) = _
  rw [rI_eq]
theorem ok_lastore (hC : CX p R s m args c cc own nL cells slots D ad cy ex fm A sc) {pc : Nat} {lv : LV} {st : List AV} {hp : HP} (hd : decode cc pc = .ok (.lastore, 1))
    (h : pL st fun x r => pI r fun i r => pR r fun k c2 r => ash k 1 fun n => vp_in i n ∧ OK p l e R s m args below meth c nL cells slots Qs D ad cy ex fm A (pc + 1) lv r (uL hp c2 i.toNatClampNeg x)) : OK p l e R s m args below meth c nL cells slots Qs D ad cy ex fm A pc lv st hp := by
  intro hv hs H locs ls hP hS hl
  obtain ⟨x, r, e1, h0⟩ := pL_e h
  subst e1
  obtain ⟨i, r, e1, h3⟩ := pI_e h0
  subst e1
  obtain ⟨k, q, r, e1, h1⟩ := pR_e h3
  subst e1
  obtain ⟨a, ha, hat, hin, h2⟩ := ash_e h1
  have hvr := vs_hd (vs_tl (vs_tl hs))
  have he := ab_row (ad := ad) (cy := cy) (hp := hp) hvr ha
  rw [ab_ar1 hat] at he
  have hDD := ab_K (ad := ad) (cy := cy) (hp := hp) hC.2.2.2.2.2.2.1 hC.2.2.2.2.2.2.2.1
  refine va_last hC.1 hC.2.1 hC.2.2.2.2.2.1 hP hDD hS q 1 he rfl hin hd (fun H1 locs1 hP1 _ hS1 => ?_)
  refine h2 hv (vs_tl (vs_tl (vs_tl hs))) H1 locs1 ls (ab_put (hp := hp) (hq := uL hp q i.toNatClampNeg x) hvr.1 (fun d hd => ⟨rfl, rL_ne hp _ hd⟩) ?_ hP1) hS1 hl
  rw [ab_rowq hvr ha, ab_ar1 hat]
  show Sum.inl (cy 1, a.2.1, Sum.inr (Sum.inl ((rL hp q _).2 q))) = _
  rw [rL_eq]
theorem ok_alen (hC : CX p R s m args c cc own nL cells slots D ad cy ex fm A sc) {pc : Nat} {lv : LV} {st : List AV} {hp : HP} (hd : decode cc pc = .ok (.arraylength, 1))
    (h : pA st (fun k _ r => aln k fun n => OK p l e R s m args below meth c nL cells slots Qs D ad cy ex fm A (pc + 1) lv (vI (nI n) :: r) hp) (fun n r => match n with | 1 => scq sc fun q => OK p l e R s m args below meth c nL cells slots Qs D ad cy ex fm A (pc + 1) lv (vI (nI q.1) :: r) hp | m2 + 11 => txok m2 ∧ OK p l e R s m args below meth c nL cells slots Qs D ad cy ex fm A (pc + 1) lv (vI (nI (tx_n m2)) :: r) hp | _ => False)) : OK p l e R s m args below meth c nL cells slots Qs D ad cy ex fm A pc lv st hp := by
  intro hv hs H locs ls hP hS hl
  rcases pA_e h with ⟨k, q, r, e1, h1⟩ | ⟨n2, r, e1, h1⟩
  · subst e1
    obtain ⟨a, ha, h2⟩ := aln_e h1
    have hvr := vs_hd hs
    have he := ab_row (ad := ad) (cy := cy) (hp := hp) hvr ha
    have ht := kd_tag q hvr.1 a (by rw [show kc q = k from hvr.2]; exact ha)
    obtain ⟨x, hx, hx1, ty, hty⟩ := ab_arX (ad := ad) (cy := cy) (hp := hp) (q := q) a ht
    rw [hx] at he
    exact va_alen hC.1 hC.2.1 hC.2.2.2.2.2.1 hP q a.1 he hty (by rw [hx1]; rfl) hd (h2 hv (vs_cn trivial (vs_tl hs)) H locs ls hP hS hl)
  · subst e1
    by_cases hn : 11 ≤ n2
    · obtain ⟨m2, rfl⟩ : ∃ m2, n2 = m2 + 11 := ⟨n2 - 11, by omega⟩
      obtain ⟨hm, h2⟩ := h1
      obtain ⟨-, -, -, x4⟩ := hC.2.2.2.2.2.2.2.2.1.2.2.2.1 m2 hm
      exact va_tlen hC.1 hC.2.1 x4 hS rfl hd (h2 hv (vs_cn trivial (vs_tl hs)) H locs ls hP hS hl)
    · have : n2 = 1 ∨ n2 = 0 ∨ n2 = 2 ∨ n2 = 3 ∨ n2 = 4 ∨ n2 = 5 ∨ n2 = 6 ∨ n2 = 7 ∨ n2 = 8 ∨ n2 = 9 ∨ n2 = 10 := by omega
      rcases this with rfl | this
      · obtain ⟨q, hsc, h2⟩ := scq_e h1
        obtain ⟨x1, x2, x3⟩ := hC.2.2.2.2.2.2.2.2.2.2.2 q hsc
        exact va_slen hC.1 hC.2.1 x1 x2 x3 hS hd (h2 hv (vs_cn trivial (vs_tl hs)) H locs ls hP hS hl)
      · rcases this with rfl | rfl | rfl | rfl | rfl | rfl | rfl | rfl | rfl | rfl <;> exact h1.elim
theorem ok_call (hC : CX p R s m args c cc own nL cells slots D ad cy ex fm A sc) {pc n : Nat} {lv : LV} {st : List AV} {hp : HP} {sta : Bool} {E : EN} {F L : Nat} (hE : ∀ q ∈ E, SC own F L q) (hF : F ≤ R.frames) (hL : L ≤ R.locals) (hd : decode cc pc = .ok ((match sta with | true => Instr.invokestatic n | false => Instr.invokevirtual n), 3))
    (h : cll E sta n st hp fun r hq => OK p l e R s m args below meth c nL cells slots Qs D ad cy ex fm A (pc + 3) lv r hq) : OK p l e R s m args below meth c nL cells slots Qs D ad cy ex fm A pc lv st hp := by
  unfold cll at h
  split at h
  · next b9 n9 sp9 hq =>
    split at h
    · next hb =>
      split at h
      · next as9 r9 har =>
        split at h
        · next hw =>
          obtain ⟨pre, h1, h2, h3⟩ := tk_e (as := as9) (rest := r9) har
          have h4 := eq_of_beq hb
          have h5 := (hE _ (lk_mem hq)).2 p l e R s m args below meth c cc nL cells slots Qs D ad cy ex fm A sc hC hF hL pc lv as9 r9 hp
          dsimp only at h5
          rw [h4] at h5
          have h6 := h5 hd (by rw [h2, List.append_nil, List.length_reverse]; exact h3) (Nat.le_of_ble_eq_true hw) h
          rw [h2, List.append_nil, List.reverse_reverse, ← h1] at h6
          exact h6
        · exact h.elim
      · exact h.elim
    · exact h.elim
  · exact h.elim
/-- the returns of a walk -/
def RTN (G : GP) (cc : ByteArray) (ret : Option FieldType) (Q : QP) : Prop :=
  (∀ (pc : Nat) (lv : LV) (x : Int32) (hp : HP), decode cc pc = .ok (.ireturn, 1) → rtI ret x (Q (some (vI x)) hp) → G pc lv [vI x] hp) ∧
  (∀ (pc : Nat) (lv : LV) (x : Int64) (hp : HP), decode cc pc = .ok (.lreturn, 1) → rtL ret (Q (some (vL x)) hp) → G pc lv [vL x] hp) ∧
  (∀ (pc : Nat) (lv : LV) (k : Nat) (hp : HP), decode cc pc = .ok (.areturn, 1) → rtA k ret (Q (some (vX k)) hp) → G pc lv [vX k] hp) ∧
  ∀ (pc : Nat) (lv : LV) (hp : HP), decode cc pc = .ok (.return_, 1) → rtV ret (Q none hp) → G pc lv [] hp
theorem ok_stp (hC : CX p R s m args c cc own nL cells slots D ad cy ex fm A sc) {P : PG} {K : LKS} {E : EN} {ret : Option FieldType} {Q : QP} {F L : Nat} (hP : pgk cc P) (hK : lkok own K) (hE : ∀ q ∈ E, SC own F L q) (hF : F ≤ R.frames) (hL : L ≤ R.locals) (hR : RTN (OK p l e R s m args below meth c nL cells slots Qs D ad cy ex fm A) cc ret Q) {pc : Nat} {lv : LV} {st : List AV} {hp : HP}
    (h : stp P K E nL ret sc Q (OK p l e R s m args below meth c nL cells slots Qs D ad cy ex fm A) pc lv st hp) : OK p l e R s m args below meth c nL cells slots Qs D ad cy ex fm A pc lv st hp := by
  unfold stp at h
  split at h
  case h_2 => exact h.elim
  next i nx tg he =>
  obtain ⟨q, hq, hm⟩ := lk2_mem he
  obtain ⟨h1, h2, h3⟩ := hP q hq _ hm
  dsimp only at h1 h2 h3
  cases i with
  | iadd =>
    have h2 : nx = pc + 1 := h2
    subst h2
    exact ok_iadd hC h1 h
  | isub =>
    have h2 : nx = pc + 1 := h2
    subst h2
    exact ok_isub hC h1 h
  | imul =>
    have h2 : nx = pc + 1 := h2
    subst h2
    exact ok_imul hC h1 h
  | iand =>
    have h2 : nx = pc + 1 := h2
    subst h2
    exact ok_iand hC h1 h
  | ior =>
    have h2 : nx = pc + 1 := h2
    subst h2
    exact ok_ior hC h1 h
  | ixor =>
    have h2 : nx = pc + 1 := h2
    subst h2
    exact ok_ixor hC h1 h
  | ishl =>
    have h2 : nx = pc + 1 := h2
    subst h2
    exact ok_ishl hC h1 h
  | ishr =>
    have h2 : nx = pc + 1 := h2
    subst h2
    exact ok_ishr hC h1 h
  | iushr =>
    have h2 : nx = pc + 1 := h2
    subst h2
    exact ok_iushr hC h1 h
  | idiv =>
    have h2 : nx = pc + 1 := h2
    subst h2
    exact ok_idiv hC h1 h
  | irem =>
    have h2 : nx = pc + 1 := h2
    subst h2
    exact ok_irem hC h1 h
  | ladd =>
    have h2 : nx = pc + 1 := h2
    subst h2
    exact ok_ladd hC h1 h
  | lsub =>
    have h2 : nx = pc + 1 := h2
    subst h2
    exact ok_lsub hC h1 h
  | lmul =>
    have h2 : nx = pc + 1 := h2
    subst h2
    exact ok_lmul hC h1 h
  | land =>
    have h2 : nx = pc + 1 := h2
    subst h2
    exact ok_land hC h1 h
  | lor =>
    have h2 : nx = pc + 1 := h2
    subst h2
    exact ok_lor hC h1 h
  | lxor =>
    have h2 : nx = pc + 1 := h2
    subst h2
    exact ok_lxor hC h1 h
  | lshl =>
    have h2 : nx = pc + 1 := h2
    subst h2
    exact ok_lshl hC h1 h
  | lshr =>
    have h2 : nx = pc + 1 := h2
    subst h2
    exact ok_lshr hC h1 h
  | lushr =>
    have h2 : nx = pc + 1 := h2
    subst h2
    exact ok_lushr hC h1 h
  | i2l =>
    have h2 : nx = pc + 1 := h2
    subst h2
    exact ok_i2l hC h1 h
  | l2i =>
    have h2 : nx = pc + 1 := h2
    subst h2
    exact ok_l2i hC h1 h
  | i2b =>
    have h2 : nx = pc + 1 := h2
    subst h2
    exact ok_i2b hC h1 h
  | i2s =>
    have h2 : nx = pc + 1 := h2
    subst h2
    exact ok_i2s hC h1 h
  | i2c =>
    have h2 : nx = pc + 1 := h2
    subst h2
    exact ok_i2c hC h1 h
  | lcmp =>
    have h2 : nx = pc + 1 := h2
    subst h2
    exact ok_lcmp hC h1 h
  | dup =>
    have h2 : nx = pc + 1 := h2
    subst h2
    exact ok_dup hC h1 h
  | dup2 =>
    have h2 : nx = pc + 1 := h2
    subst h2
    exact ok_dup2 hC h1 h
  | pop =>
    have h2 : nx = pc + 1 := h2
    subst h2
    exact ok_pop hC h1 h
  | iaload =>
    have h2 : nx = pc + 1 := h2
    subst h2
    exact ok_iaload hC h1 h
  | laload =>
    have h2 : nx = pc + 1 := h2
    subst h2
    exact ok_laload hC h1 h
  | baload =>
    have h2 : nx = pc + 1 := h2
    subst h2
    exact ok_baload hC h1 h
  | aaload =>
    have h2 : nx = pc + 1 := h2
    subst h2
    exact ok_aaload hC h1 h
  | iastore =>
    have h2 : nx = pc + 1 := h2
    subst h2
    exact ok_iastore hC h1 h
  | lastore =>
    have h2 : nx = pc + 1 := h2
    subst h2
    exact ok_lastore hC h1 h
  | bastore =>
    have h2 : nx = pc + 1 := h2
    subst h2
    exact ok_bastore hC h1 h
  | arraylength =>
    have h2 : nx = pc + 1 := h2
    subst h2
    exact ok_alen hC h1 h
  | iload n =>
    have h2 : nx = pc + 2 := h2
    subst h2
    exact ok_iload hC h1 h
  | iload_n n =>
    have h2 : nx = pc + 1 := h2
    subst h2
    exact ok_iload_n hC h1 h
  | lload n =>
    have h2 : nx = pc + 2 := h2
    subst h2
    exact ok_lload hC h1 h
  | lload_n n =>
    have h2 : nx = pc + 1 := h2
    subst h2
    exact ok_lload_n hC h1 h
  | aload n =>
    have h2 : nx = pc + 2 := h2
    subst h2
    exact ok_aload hC h1 h
  | aload_n n =>
    have h2 : nx = pc + 1 := h2
    subst h2
    exact ok_aload_n hC h1 h
  | istore n =>
    have h2 : nx = pc + 2 := h2
    subst h2
    exact ok_istore hC h1 h
  | istore_n n =>
    have h2 : nx = pc + 1 := h2
    subst h2
    exact ok_istore_n hC h1 h
  | lstore n =>
    have h2 : nx = pc + 2 := h2
    subst h2
    exact ok_lstore hC h1 h
  | lstore_n n =>
    have h2 : nx = pc + 1 := h2
    subst h2
    exact ok_lstore_n hC h1 h
  | astore n =>
    have h2 : nx = pc + 2 := h2
    subst h2
    exact ok_astore hC h1 h
  | astore_n n =>
    have h2 : nx = pc + 1 := h2
    subst h2
    exact ok_astore_n hC h1 h
  | iinc n d =>
    have h2 : nx = pc + 3 := h2
    subst h2
    exact ok_iinc hC h1 (of_decide_eq_true h3) h
  | iconst d =>
    have h2 : nx = pc + 1 := h2
    subst h2
    exact ok_iconst hC h1 (of_decide_eq_true h3) h
  | bipush d =>
    have h2 : nx = pc + 2 := h2
    subst h2
    exact ok_bipush hC h1 (of_decide_eq_true h3) h
  | sipush d =>
    have h2 : nx = pc + 3 := h2
    subst h2
    exact ok_sipush hC h1 (of_decide_eq_true h3) h
  | lconst n =>
    have h2 : nx = pc + 1 := h2
    subst h2
    exact ok_lconst hC h1 h
  | ldc n =>
    have h2 : nx = pc + 2 := h2
    subst h2
    exact ok_ldc hC hK h1 h
  | ldc_w n =>
    have h2 : nx = pc + 3 := h2
    subst h2
    exact ok_ldc_w hC hK h1 h
  | ldc2_w n =>
    have h2 : nx = pc + 3 := h2
    subst h2
    exact ok_ldc2_w hC hK h1 h
  | getstatic n =>
    have h2 : nx = pc + 3 := h2
    subst h2
    exact ok_getstatic hC hK h1 h
  | goto off =>
    have h2 : nx = pc + 3 := h2
    subst h2
    exact ok_goto hC h1 (of_decide_eq_true h3) h
  | getfield n =>
    have h2 : nx = pc + 3 := h2
    subst h2
    exact ok_getfield hC hK h1 h
  | putfield n =>
    have h2 : nx = pc + 3 := h2
    subst h2
    exact ok_putfield hC hK h1 h
  | invokevirtual n =>
    have h2 : nx = pc + 3 := h2
    subst h2
    exact ok_call (sta := false) hC hE hF hL h1 h
  | invokestatic n =>
    have h2 : nx = pc + 3 := h2
    subst h2
    exact ok_call (sta := true) hC hE hF hL h1 h
  | if_icmp cd off =>
    have h2 : nx = pc + 3 := h2
    subst h2
    cases cd with
    | eq => exact ok_icmp_eq hC h1 (of_decide_eq_true h3) h
    | ne => exact ok_icmp_ne hC h1 (of_decide_eq_true h3) h
    | lt => exact ok_icmp_lt hC h1 (of_decide_eq_true h3) h
    | ge => exact ok_icmp_ge hC h1 (of_decide_eq_true h3) h
    | gt => exact ok_icmp_gt hC h1 (of_decide_eq_true h3) h
    | le => exact ok_icmp_le hC h1 (of_decide_eq_true h3) h
  | ifCond cd off =>
    have h2 : nx = pc + 3 := h2
    subst h2
    cases cd with
    | eq => exact ok_if_eq hC h1 (of_decide_eq_true h3) h
    | ne => exact ok_if_ne hC h1 (of_decide_eq_true h3) h
    | lt => exact ok_if_lt hC h1 (of_decide_eq_true h3) h
    | ge => exact ok_if_ge hC h1 (of_decide_eq_true h3) h
    | gt => exact ok_if_gt hC h1 (of_decide_eq_true h3) h
    | le => exact ok_if_le hC h1 (of_decide_eq_true h3) h
  | tableswitch d lo hi offs =>
    obtain ⟨h4, h5⟩ := (Bool.and_eq_true _ _).mp h3
    exact ok_table hC h1 (of_decide_eq_true h4) (of_decide_eq_true h5) h
  | ireturn =>
    have h0 : pI st fun x r => pN r (rtI ret x (Q (some (vI x)) hp)) := h
    obtain ⟨x, r, e1, ha⟩ := pI_e h0
    subst e1
    obtain ⟨e1, hb⟩ := pN_e ha
    subst e1
    exact hR.1 pc lv x hp h1 hb
  | lreturn =>
    have h0 : pL st fun x r => pN r (rtL ret (Q (some (vL x)) hp)) := h
    obtain ⟨x, r, e1, ha⟩ := pL_e h0
    subst e1
    obtain ⟨e1, hb⟩ := pN_e ha
    subst e1
    exact hR.2.1 pc lv x hp h1 hb
  | areturn =>
    have h0 : pA st (fun _ _ _ => False) (fun n r => pN r (rtA n ret (Q (some (vX n)) hp))) := h
    rcases pA_e h0 with ⟨_, _, _, _, ha⟩ | ⟨k, r, e1, ha⟩
    · exact ha.elim
    · subst e1
      obtain ⟨e1, hb⟩ := pN_e ha
      subst e1
      exact hR.2.2.1 pc lv k hp h1 hb
  | return_ =>
    have h0 : pN st (rtV ret (Q none hp)) := h
    obtain ⟨e1, hb⟩ := pN_e h0
    subst e1
    exact hR.2.2.2 pc lv hp h1 hb
  | _ => exact h.elim
end
end
section
/-! contracts over the machine -/
/-- a method: name, code, locals, what it returns, the frames and words that its calls take -/
abbrev MR : Type := MethodName × ByteArray × Nat × Option FieldType × Nat × Nat
def mr_ws (r : MR) : List Cond := Cond.code r.1 r.2.1 r.2.2.1 r.2.2.2.1 :: Gw
def mr_rm (r : MR) : Room := { frames := r.2.2.2.2.1, cells := 0, slots := 0, locals := r.2.2.2.2.2 }
def CB (D : va_G) (ad : Nat → Nat) (cy : Nat → ClassId) (ex : Nat → Nat) (fm : Value) (hp : HP) (U : State) : Prop := va_P D vwCl (ab_w ad cy hp) U.heap ∧ va_K D vwCl (ab_ty cy) U ∧ XT ex fm (ab_A ad) U U.heap
def CQ (D : va_G) (ad : Nat → Nat) (cy : Nat → ClassId) (ex : Nat → Nat) (fm : Value) (Q : QP) : Array Value → State → Outcome → State → Prop := fun _ st oc t =>
  (∃ (v : Option AV) (hq : HP), oc = .returned (v.map (cv ad ex fm)) ∧ (∀ a, v = some a → vld a) ∧ Q v hq ∧ va_P D vwCl (ab_w ad cy hq) t.heap) ∧ va_F (ab_A ad) st t
def Ctr (r : MR) (sp : SP) : Prop := ∀ (l : Launch) (D : va_G) (ad : Nat → Nat) (cy : Nat → ClassId) (ex : Nat → Nat) (fm : Value), ab_inj ad → fm.category = 1 → ∀ (as : List AV) (hp : HP) (Q : QP), QInv Q → (∀ v ∈ as, vld v) → sp as hp Q →
  Met l r.1 (mr_ws r) (mr_rm r) (va_Pc (as.map (cv ad ex fm)) (CB D ad cy ex fm hp)) (CQ D ad cy ex fm Q) 0 0 (ab_A ad)
section
variable {p : Program} {l : Launch} {e : Env} {R : Room} {s : State} {m : MethodId} {args : Array Value} {below : List Frame} {meth : Method} {c : Code} {cells slots : Nat} {Qs : State → Prop} {cc : ByteArray} {own : String} {nL : Nat} {D : va_G} {ad : Nat → Nat} {cy : Nat → ClassId} {ex : Nat → Nat} {fm : Value} {A : Nat → Prop} {sc : Option (Nat × (Nat → Int32))}
theorem OK_inv {pc : Nat} {lv : LV} {st : List AV} {hp hq : HP} (h : heq hp hq) (hk : OK p l e R s m args below meth c nL cells slots Qs D ad cy ex fm A pc lv st hp) : OK p l e R s m args below meth c nL cells slots Qs D ad cy ex fm A pc lv st hq := fun hv hs H locs ls hP hS hl => hk hv hs H locs ls (va_P_heq h.symm hP) hS hl
theorem OK_lv {pc : Nat} {lv lw : LV} {st : List AV} {hp : HP} (h : lvs lv lw) (hk : OK p l e R s m args below meth c nL cells slots Qs D ad cy ex fm A pc lv st hp) : OK p l e R s m args below meth c nL cells slots Qs D ad cy ex fm A pc lw st hp := fun hv hs H locs ls hP hS hl => hk (fun q hq => hv q (lvs_mem h q hq)) hs H locs ls hP hS (lv_mono hl (fun q hq => by
  obtain ⟨a, ha, rfl⟩ := List.mem_map.mp hq
  exact List.mem_map.mpr ⟨a, lvs_mem h a ha, rfl⟩))
theorem CB.blind {hp : HP} {as : List Value} : FrameBlind (va_Pc as (CB D ad cy ex fm hp)) := fun a U g mk q => by
  obtain ⟨q0, qP, qK, qX⟩ := q
  exact ⟨q0, qP, va_K.moved (u := U) (U := U.calling g mk a) (Vm.Alike.refl U.vm) qK, XT.blind qX rfl rfl⟩
theorem CB.at (hC : CX p R s m args c cc own nL cells slots D ad cy ex fm A sc) {hp : HP} {H : Heap} {locs : List Loc} (hP : va_P D vwCl (ab_w ad cy hp) H) (hS : va_S A s.heap H locs) {U : State} (hU : U.heap = H) (hW : s.WarmedH U.vm) : CB D ad cy ex fm hp U :=
  ⟨by rw [hU]; exact hP, va_K.moved hW.alike hC.2.2.2.2.2.1, XT.to hC.2.2.2.2.2.2.2.2.1 hS hW hU hC.2.2.2.2.2.2.2.1⟩
/-- behind a call -/
theorem ok_fin {K : QP} {pc : Nat} {lv : LV} {rest : List AV} {H : Heap} {locs : List Loc} {ls : Array Slot} {st0 : List Value} {a : Array Value} (hr : va_Run p l e R s m args below meth c H locs cells slots 0 0 (F0 m pc ls st0) (rest.map (cv ad ex fm)) (CQ D ad cy ex fm K a) (ab_A ad))
    (hS : va_S A s.heap H locs) (hA : ∀ q, ab_A ad q → A q) (hv : ∀ q ∈ lv, vld q.2) (hs : ∀ v ∈ rest, vld v) (hl : lv_has ls nL (lvm ad ex fm lv)) (hK : ∀ v hq, K v hq → OK p l e R s m args below meth c nL cells slots Qs D ad cy ex fm A (pc + 3) lv (psh v rest) hq) : W p l e R s m args below meth c H locs cells slots Qs (F0 m pc ls st0) := by
  intro T hT X
  obtain ⟨v, st₀, t, T', L, h0, X', hL, e1, e2, ⟨⟨w, hq, hv1, hvw, hk, hP1⟩, hz, hk2⟩, st⟩ := hr T hT X
  cases hv1
  rw [h0] at hz hk2
  have hS1 : va_S A s.heap T'.heap (locs ++ L) := ⟨Nat.le_trans hS.1 (by rw [e1]; exact hz), fun q h1 h2 => by rw [e1, hk2 q (Nat.lt_of_lt_of_le h1 hS.1) (fun z => h2 (hA q z))]; exact hS.2.1 q h1 h2, fun q hq => by
      rcases List.mem_append.mp hq with h | h
      · exact hS.2.2 q h
      · exact hA _ (hL q h)⟩
  have hgo := hK w hq hk hv (by
    cases w with
    | none => exact hs
    | some a => exact vs_cn (hvw a rfl) hs) T'.heap (locs ++ L) ls (by rw [e1]; exact hP1) hS1 hl
  obtain ⟨t2, a1, b1⟩ := hgo T' rfl X'
  refine ⟨t2, st t2 ?_, b1⟩
  cases w with
  | none => exact a1
  | some a => exact a1
end
/-- a method that a class of ours links, called on an object of ours -/
theorem SC_V {own C : String} {F L idx n k : Nat} {T : u_T} {N : Nat} {r : MR} {sp : SP} (hm : Mono sp) (hr : Ctr r sp) (hk : okd k C T N) (hsp : ∀ as hp K, sp as hp K → ∃ q t, as = vR k q :: t) (h1 : Cond.methodLink own idx r.1 ∈ Gw) (h2 : Cond.instanceMethod r.1 ∈ Gw) (h3 : Cond.selects C r.1 r.1 ∈ Gw) (h4 : Cond.initialized C ∈ Gw) (h5 : Cond.code r.1 r.2.1 r.2.2.1 r.2.2.2.1 ∈ Gw)
    (hd : r.1.cls = C ∧ r.1.cls ≠ "java/lang/invoke/MethodHandle" ∧ r.1.cls ≠ "java/lang/invoke/VarHandle" ∧ (parseMethodDescriptor r.1.desc).map (fun d => d.parameters.length) = some n) (hF : r.2.2.2.2.1 + 1 ≤ F) (hL : 8 + (r.2.2.1 + 11) + r.2.2.2.2.2 ≤ L) : SC own F L (idx, false, n + 1, sp) := by
  refine ⟨hm, ?_⟩
  intro p l e R s m args below meth c cc nL cells slots Qs D ad cy ex fm A sc hC hFR hLR pc lv as rest hp hdg hlen hwid hsp1 hv hs H locs ls hP hS hl
  dsimp only at hdg hlen hsp1
  obtain ⟨q, t, rfl⟩ := hsp as hp _ hsp1
  have hvs : ∀ v ∈ vR k q :: t, vld v := fun v h => hs v (List.mem_append_left _ (List.mem_reverse.mpr h))
  have hvr := vs_hd hvs
  obtain ⟨o, ty0, k1, k2, -⟩ := hk
  have hM := hr l D ad cy ex fm hC.2.2.2.2.2.2.1 hC.2.2.2.2.2.2.2.2.2.1 (vR k q :: t) hp (fun v hq => OK p l e R s m args below meth c nL cells slots Qs D ad cy ex fm A (pc + 3) lv (psh v rest) hq) (fun _ _ _ h1 h2 => OK_inv h1 h2) hvs hsp1
  have hGood : ∀ w ∈ Gw, (w.onTables && w.keeps) = true ∨ ∃ ty, w = .arrayClass ty := fun w h => good_of_word (List.mem_filter.mp h).2
  have hG : GoodIn Gw (wsV own idx C r.1 (mr_ws r)) := by
    intro w h
    have hw : w ∈ Gw := by
      unfold wsV mr_ws at h
      rcases List.mem_append.mp h with h | h
      · simp only [List.mem_cons, List.not_mem_nil, or_false] at h
        rcases h with rfl | rfl | rfl | rfl
        · exact h1
        · exact h2
        · exact h3
        · exact h4
      · rcases List.mem_cons.mp h with rfl | h
        · exact h5
        · exact h
    exact ⟨hw, hGood w hw⟩
  have hrun := va_runV (b := ad q) (rest := rest.map (cv ad ex fm)) (As := t.map (cv ad ex fm)) (locs := locs) (H := H) (cells := cells) (slots := slots) (below := below) (meth := meth) (e := e) (R := R) (g := F0 m pc ls (((vR k q :: t).reverse ++ rest).map (cv ad ex fm))) (nL := nL) ⟨hC.1, hC.2.1, hC.2.2.1, hC.2.2.2.1, hC.2.2.2.2.1⟩ hM
    (cwV (rm := mr_rm r) n hC.2.2.2.2.1 hG rfl rfl rfl hd ⟨Nat.le_trans hF hFR, Nat.le_trans hL hLR⟩)
    ⟨CB.blind, va_recv hC.2.2.2.2.2.1 hP k2 (ab_obj hvr k1), fun U hU hW => ⟨rfl, CB.at hC hP hS hU hW⟩⟩
    rfl (by rw [List.length_map]; simpa using hlen) hl.1 (by
      show ((vR k q :: t).reverse ++ rest).map (cv ad ex fm) = _
      rw [List.map_append, List.map_reverse, List.map_cons, List.reverse_cons, List.append_assoc]
      rfl) (lv_room (by rw [cv_wid hC.2.2.2.2.2.2.2.2.2.1]; exact hwid)) hdg ⟨by simpa using hC.2.2.2.2.2.2.2.2.2.2.1.1, by simpa using hC.2.2.2.2.2.2.2.2.2.2.1.2⟩
  exact ok_fin hrun hS hC.2.2.2.2.2.2.2.1 hv (fun v h => hs v (List.mem_append_right _ h)) hl (fun v hq h => h)
/-- the same on a text -/
theorem SC_X {own C : String} {F L idx n : Nat} {r : MR} {sp : SP} (hC0 : C = "java/lang/String") (hm : Mono sp) (hr : Ctr r sp) (hsp : ∀ as hp K, sp as hp K → ∃ q t, txok q ∧ as = vX (q + 10) :: t) (h1 : Cond.methodLink own idx r.1 ∈ Gw) (h2 : Cond.instanceMethod r.1 ∈ Gw) (h3 : Cond.selects C r.1 r.1 ∈ Gw) (h4 : Cond.initialized C ∈ Gw) (h5 : Cond.code r.1 r.2.1 r.2.2.1 r.2.2.2.1 ∈ Gw)
    (hd : r.1.cls = C ∧ r.1.cls ≠ "java/lang/invoke/MethodHandle" ∧ r.1.cls ≠ "java/lang/invoke/VarHandle" ∧ (parseMethodDescriptor r.1.desc).map (fun d => d.parameters.length) = some n) (hF : r.2.2.2.2.1 + 1 ≤ F) (hL : 8 + (r.2.2.1 + 11) + r.2.2.2.2.2 ≤ L) : SC own F L (idx, false, n + 1, sp) := by
  refine ⟨hm, ?_⟩
  intro p l e R s m args below meth c cc nL cells slots Qs D ad cy ex fm A sc hC hFR hLR pc lv as rest hp hdg hlen hwid hsp1 hv hs H locs ls hP hS hl
  dsimp only at hdg hlen hsp1
  obtain ⟨q, t, hq, rfl⟩ := hsp as hp _ hsp1
  have hvs : ∀ v ∈ vX (q + 10) :: t, vld v := fun v h => hs v (List.mem_append_left _ (List.mem_reverse.mpr h))
  have hM := hr l D ad cy ex fm hC.2.2.2.2.2.2.1 hC.2.2.2.2.2.2.2.2.2.1 (vX (q + 10) :: t) hp (fun v hq => OK p l e R s m args below meth c nL cells slots Qs D ad cy ex fm A (pc + 3) lv (psh v rest) hq) (fun _ _ _ h1 h2 => OK_inv h1 h2) hvs hsp1
  have hGood : ∀ w ∈ Gw, (w.onTables && w.keeps) = true ∨ ∃ ty, w = .arrayClass ty := fun w h => good_of_word (List.mem_filter.mp h).2
  have hG : GoodIn Gw (wsV own idx C r.1 (mr_ws r)) := by
    intro w h
    have hw : w ∈ Gw := by
      unfold wsV mr_ws at h
      rcases List.mem_append.mp h with h | h
      · simp only [List.mem_cons, List.not_mem_nil, or_false] at h
        rcases h with rfl | rfl | rfl | rfl
        · exact h1
        · exact h2
        · exact h3
        · exact h4
      · rcases List.mem_cons.mp h with rfl | h
        · exact h5
        · exact h
    exact ⟨hw, hGood w hw⟩
  have hrec : ∃ cell : Cell, H[ex (q + 10)]? = some cell ∧ cell.vm.isStatics = false ∧ s.vm.findClass C = some cell.cls := by
    obtain ⟨cell, a1, a2, a3, -⟩ := ((hC.2.2.2.2.2.2.2.2.1.2.2.2.1 q hq).1).kept hS.2.1
    exact ⟨cell, a1, a2, by rw [hC0]; exact a3⟩
  have hrun := va_runV (b := ex (q + 10)) (rest := rest.map (cv ad ex fm)) (As := t.map (cv ad ex fm)) (locs := locs) (H := H) (cells := cells) (slots := slots) (below := below) (meth := meth) (e := e) (R := R) (g := F0 m pc ls (((vX (q + 10) :: t).reverse ++ rest).map (cv ad ex fm))) (nL := nL) ⟨hC.1, hC.2.1, hC.2.2.1, hC.2.2.2.1, hC.2.2.2.2.1⟩ hM
    (cwV (rm := mr_rm r) n hC.2.2.2.2.1 hG rfl rfl rfl hd ⟨Nat.le_trans hF hFR, Nat.le_trans hL hLR⟩)
    ⟨CB.blind, hrec, fun U hU hW => ⟨rfl, CB.at hC hP hS hU hW⟩⟩
    rfl (by rw [List.length_map]; simpa using hlen) hl.1 (by
      show ((vX (q + 10) :: t).reverse ++ rest).map (cv ad ex fm) = _
      rw [List.map_append, List.map_reverse, List.map_cons, List.reverse_cons, List.append_assoc]
      rfl) (lv_room (by rw [cv_wid hC.2.2.2.2.2.2.2.2.2.1]; exact hwid)) hdg ⟨by simpa using hC.2.2.2.2.2.2.2.2.2.2.1.1, by simpa using hC.2.2.2.2.2.2.2.2.2.2.1.2⟩
  exact ok_fin hrun hS hC.2.2.2.2.2.2.2.1 hv (fun v h => hs v (List.mem_append_right _ h)) hl (fun v hq h => h)
/-- a static method -/
theorem SC_S {own : String} {F L idx n : Nat} {r : MR} {sp : SP} (hm : Mono sp) (hr : Ctr r sp) (h1 : Cond.methodLink own idx r.1 ∈ Gw) (h2 : Cond.static r.1 ∈ Gw) (h4 : Cond.initialized r.1.cls ∈ Gw) (h5 : Cond.code r.1 r.2.1 r.2.2.1 r.2.2.2.1 ∈ Gw)
    (hd : r.1.cls ≠ "java/lang/invoke/MethodHandle" ∧ r.1.cls ≠ "java/lang/invoke/VarHandle" ∧ (parseMethodDescriptor r.1.desc).map (fun d => d.parameters.length) = some n) (hF : r.2.2.2.2.1 + 1 ≤ F) (hL : 8 + (r.2.2.1 + 11) + r.2.2.2.2.2 ≤ L) : SC own F L (idx, true, n, sp) := by
  refine ⟨hm, ?_⟩
  intro p l e R s m args below meth c cc nL cells slots Qs D ad cy ex fm A sc hC hFR hLR pc lv as rest hp hdg hlen hwid hsp1 hv hs H locs ls hP hS hl
  dsimp only at hdg hlen hsp1
  have hvs : ∀ v ∈ as, vld v := fun v h => hs v (List.mem_append_left _ (List.mem_reverse.mpr h))
  have hM := hr l D ad cy ex fm hC.2.2.2.2.2.2.1 hC.2.2.2.2.2.2.2.2.2.1 as hp (fun v hq => OK p l e R s m args below meth c nL cells slots Qs D ad cy ex fm A (pc + 3) lv (psh v rest) hq) (fun _ _ _ h1 h2 => OK_inv h1 h2) hvs hsp1
  have hGood : ∀ w ∈ Gw, (w.onTables && w.keeps) = true ∨ ∃ ty, w = .arrayClass ty := fun w h => good_of_word (List.mem_filter.mp h).2
  have hG : GoodIn Gw (mr_ws r) := by
    intro w h
    have hw : w ∈ Gw := by
      unfold mr_ws at h
      rcases List.mem_cons.mp h with rfl | h
      · exact h5
      · exact h
    exact ⟨hw, hGood w hw⟩
  have hrun := va_runS (rest := rest.map (cv ad ex fm)) (As := as.map (cv ad ex fm)) (locs := locs) (H := H) (cells := cells) (slots := slots) (below := below) (meth := meth) (e := e) (R := R) (g := F0 m pc ls ((as.reverse ++ rest).map (cv ad ex fm))) (nL := nL) ⟨hC.1, hC.2.1, hC.2.2.1, hC.2.2.2.1, hC.2.2.2.2.1⟩ hM
    ⟨callB_of (rm := mr_rm r) n hC.2.2.2.2.1 hG rfl rfl rfl (hC.2.2.2.2.1 _ h4) (hC.2.2.2.2.1 _ h1) hd ⟨Nat.le_trans hF hFR, Nat.le_trans hL hLR⟩, hC.2.2.2.2.1 _ h2⟩
    ⟨CB.blind, fun U hU hW => ⟨rfl, CB.at hC hP hS hU hW⟩⟩
    rfl (by rw [List.length_map]; exact hlen) hl.1 (by
      show (as.reverse ++ rest).map (cv ad ex fm) = _
      rw [List.map_append, List.map_reverse]) (lv_room (by rw [cv_wid hC.2.2.2.2.2.2.2.2.2.1]; exact hwid)) hdg ⟨by simpa using hC.2.2.2.2.2.2.2.2.2.2.1.1, by simpa using hC.2.2.2.2.2.2.2.2.2.2.1.2⟩
  exact ok_fin hrun hS hC.2.2.2.2.2.2.2.1 hv (fun v h => hs v (List.mem_append_right _ h)) hl (fun v hq h => h)
/-- the one private static method of a nest mate: isSquare, out of Ward -/
theorem SC_N {F L : Nat} {r : MR} {sp : SP} (hr1 : r.1 = yX4_isSquare) (hm : Mono sp) (hr : Ctr r sp) (h2 : Cond.static r.1 ∈ Gw) (h4 : Cond.initialized r.1.cls ∈ Gw) (h5 : Cond.code r.1 r.2.1 r.2.2.1 r.2.2.2.1 ∈ Gw)
    (hd : r.1.cls ≠ "java/lang/invoke/MethodHandle" ∧ r.1.cls ≠ "java/lang/invoke/VarHandle" ∧ (parseMethodDescriptor r.1.desc).map (fun d => d.parameters.length) = some 1) (hF : r.2.2.2.2.1 + 1 ≤ F) (hL : 8 + (r.2.2.1 + 11) + r.2.2.2.2.2 ≤ L) : SC RX3 F L (73, true, 1, sp) := by
  refine ⟨hm, ?_⟩
  intro p l e R s m args below meth c cc nL cells slots Qs D ad cy ex fm A sc hC hFR hLR pc lv as rest hp hdg hlen hwid hsp1 hv hs H locs ls hP hS hl
  dsimp only at hdg hlen hsp1
  have hvs : ∀ v ∈ as, vld v := fun v h => hs v (List.mem_append_left _ (List.mem_reverse.mpr h))
  have hM := hr l D ad cy ex fm hC.2.2.2.2.2.2.1 hC.2.2.2.2.2.2.2.2.2.1 as hp (fun v hq => OK p l e R s m args below meth c nL cells slots Qs D ad cy ex fm A (pc + 3) lv (psh v rest) hq) (fun _ _ _ h1 h2 => OK_inv h1 h2) hvs hsp1
  have hGood : ∀ w ∈ Gw, (w.onTables && w.keeps) = true ∨ ∃ ty, w = .arrayClass ty := fun w h => good_of_word (List.mem_filter.mp h).2
  have hG : GoodIn Gw (mr_ws r) := by
    intro w h
    have hw : w ∈ Gw := by
      unfold mr_ws at h
      rcases List.mem_cons.mp h with rfl | h
      · exact h5
      · exact h
    exact ⟨hw, hGood w hw⟩
  have hN : va_Nw (.methodLinkNest RX3 73 r.1 RX4) s := by rw [hr1]; exact hC.2.2.2.2.2.2.2.2.1.2.2.2.2.2
  have hrun := va_runSN (rest := rest.map (cv ad ex fm)) (As := as.map (cv ad ex fm)) (locs := locs) (H := H) (cells := cells) (slots := slots) (below := below) (meth := meth) (e := e) (R := R) (g := F0 m pc ls ((as.reverse ++ rest).map (cv ad ex fm))) (nL := nL) ⟨hC.1, hC.2.1, hC.2.2.1, hC.2.2.2.1, hC.2.2.2.2.1⟩ hM
    ⟨va_cnB (rm := mr_rm r) 1 hC.2.2.2.2.1 hG rfl rfl rfl hN (hC.2.2.2.2.1 _ h4) hd ⟨Nat.le_trans hF hFR, Nat.le_trans hL hLR⟩, hC.2.2.2.2.1 _ h2, trivial⟩
    ⟨CB.blind, fun U hU hW => ⟨rfl, CB.at hC hP hS hU hW⟩⟩
    rfl (by rw [List.length_map]; exact hlen) hl.1 (by
      show (as.reverse ++ rest).map (cv ad ex fm) = _
      rw [List.map_append, List.map_reverse]) (lv_room (by rw [cv_wid hC.2.2.2.2.2.2.2.2.2.1]; exact hwid)) hdg ⟨by simpa using hC.2.2.2.2.2.2.2.2.2.2.1.1, by simpa using hC.2.2.2.2.2.2.2.2.2.2.1.2⟩
  exact ok_fin hrun hS hC.2.2.2.2.2.2.2.1 hv (fun v h => hs v (List.mem_append_right _ h)) hl (fun v hq h => h)
end
section
/-! the step is monotone; many steps at once; a contract out of a walk -/
theorem pI_m {st : List AV} {k k2 : Int32 → List AV → Prop} (hk : ∀ x r, k x r → k2 x r) (h : pI st k) : pI st k2 := by
  obtain ⟨x, r, rfl, h⟩ := pI_e h
  exact hk x r h
theorem pL_m {st : List AV} {k k2 : Int64 → List AV → Prop} (hk : ∀ x r, k x r → k2 x r) (h : pL st k) : pL st k2 := by
  obtain ⟨x, r, rfl, h⟩ := pL_e h
  exact hk x r h
theorem pV_m {st : List AV} {k k2 : AV → List AV → Prop} (hk : ∀ x r, k x r → k2 x r) (h : pV st k) : pV st k2 := by
  obtain ⟨x, r, rfl, h⟩ := pV_e h
  exact hk x r h
theorem pR_m {st : List AV} {k k2 : Nat → Nat → List AV → Prop} (hk : ∀ x y r, k x y r → k2 x y r) (h : pR st k) : pR st k2 := by
  obtain ⟨x, y, r, rfl, h⟩ := pR_e h
  exact hk x y r h
theorem pA_m {st : List AV} {k k2 : Nat → Nat → List AV → Prop} {x x2 : Nat → List AV → Prop} (hk : ∀ a b r, k a b r → k2 a b r) (hx : ∀ n r, x n r → x2 n r) (h : pA st k x) : pA st k2 x2 := by
  rcases pA_e h with ⟨a, b, r, rfl, h⟩ | ⟨n, r, rfl, h⟩
  · exact hk a b r h
  · exact hx n r h
theorem nb_m {a b : Nat} {k k2 : Prop} (hk : k → k2) (h : nb a b k) : nb a b k2 := by
  unfold nb at h ⊢
  split at h
  · exact hk h
  · exact h.elim
theorem one_m {v : AV} {k k2 : Prop} (hk : k → k2) (h : one v k) : one v k2 := by
  unfold one at h ⊢
  split at h
  · exact hk h
  · exact h.elim
theorem tg1_m {t : List Nat} {k k2 : Nat → Prop} (hk : ∀ a, k a → k2 a) (h : tg1 t k) : tg1 t k2 := by
  obtain ⟨a, rfl, h⟩ := tg1_e h
  exact hk a h
theorem ldI_m {lv : LV} {i : Nat} {k k2 : AV → Prop} (hk : ∀ v, k v → k2 v) (h : ldI lv i k) : ldI lv i k2 := by
  unfold ldI at h ⊢
  split at h
  · exact hk _ h
  · exact h.elim
theorem ldL_m {lv : LV} {i : Nat} {k k2 : AV → Prop} (hk : ∀ v, k v → k2 v) (h : ldL lv i k) : ldL lv i k2 := by
  unfold ldL at h ⊢
  split at h
  · exact hk _ h
  · exact h.elim
theorem ldA_m {lv : LV} {i : Nat} {k k2 : AV → Prop} (hk : ∀ v, k v → k2 v) (h : ldA lv i k) : ldA lv i k2 := by
  unfold ldA at h ⊢
  split at h
  · exact hk _ h
  · exact hk _ h
  · exact h.elim
theorem csK_m {tg : List Nat} {d : Int} {k k2 : Int32 → Prop} (hk : ∀ x, k x → k2 x) (h : csK tg d k) : csK tg d k2 := by
  match tg, h with
  | [], h => exact hk _ h
  | [_], h => exact hk _ h
  | [_, _], h => exact hk _ h
  | _ :: _ :: _ :: _, h => exact hk _ h
theorem acK_m {tg : List Nat} {x : Int32} {d : Int} {k k2 : Int32 → Prop} (hk : ∀ x, k x → k2 x) (h : acK tg x d k) : acK tg x d k2 := by
  match tg, h with
  | [], h => exact hk _ h
  | [_], h => exact hk _ h
  | [_, _], h => exact hk _ h
  | _ :: _ :: _ :: _, h => exact hk _ h
theorem fsh_m {fl : List (Nat × Nat × Nat)} {idx k : Nat} {kk k2 : Nat → (Nat × Nat × Nat) → Prop} (hk : ∀ j f, kk j f → k2 j f) (h : fsh fl idx k kk) : fsh fl idx k k2 := by
  unfold fsh at h ⊢
  split at h
  · split at h
    · split at h
      · split at h
        · exact hk _ _ h
        · exact h.elim
      · exact h.elim
    · exact h.elim
  · exact h.elim
theorem gtf_m {hp : HP} {c j : Nat} {f : Nat × Nat × Nat} {k k2 : AV → Prop} (hk : ∀ v, k v → k2 v) (h : gtf hp c j f k) : gtf hp c j f k2 := by
  unfold gtf at h ⊢
  split at h <;> exact hk _ h
theorem ptf_m {hp : HP} {c j : Nat} {f : Nat × Nat × Nat} {v : AV} {k k2 : HP → Prop} (hk : ∀ v, k v → k2 v) (h : ptf hp c j f v k) : ptf hp c j f v k2 := by
  unfold ptf at h ⊢
  split at h
  · exact hk _ h
  · exact hk _ h
  · exact ⟨h.1, hk _ h.2⟩
  · exact h.elim
theorem ash_m {k t : Nat} {kk k2 : Nat → Prop} (hk : ∀ n, kk n → k2 n) (h : ash k t kk) : ash k t k2 := by
  unfold ash at h ⊢
  split at h
  · split at h
    · exact hk _ h
    · exact h.elim
  · exact h.elim
theorem arf_m {k : Nat} {kk k2 : Nat → Nat → Nat → Prop} (hk : ∀ a b c, kk a b c → k2 a b c) (h : arf k kk) : arf k k2 := by
  unfold arf at h ⊢
  split at h
  · split at h
    · exact hk _ _ _ h
    · exact h.elim
  · exact h.elim
theorem aln_m {k : Nat} {kk k2 : Nat → Prop} (hk : ∀ n, kk n → k2 n) (h : aln k kk) : aln k k2 := by
  unfold aln at h ⊢
  split at h
  · exact hk _ h
  · exact h.elim
theorem scq_m {sc : Option (Nat × (Nat → Int32))} {k k2 : Nat × (Nat → Int32) → Prop} (hk : ∀ q, k q → k2 q) (h : scq sc k) : scq sc k2 := by
  unfold scq at h ⊢
  split at h
  · exact hk _ h
  · exact h.elim
theorem swt_m {x : Int32} {G G2 : Nat → Prop} {lo hi : Int} {d : Nat} (hG : ∀ t, G t → G2 t) : ∀ {ts : List Nat} {k : Int}, swt x G lo hi d ts k → swt x G2 lo hi d ts k
  | [], _, h => fun z => hG _ (h z)
  | _ :: _, _, h => ⟨fun z => hG _ (h.1 z), swt_m hG h.2⟩
theorem swg_m {tg : List Nat} {k k2 : Nat → List Nat → Prop} (hk : ∀ a b, k a b → k2 a b) (h : swg tg k) : swg tg k2 := by
  unfold swg at h ⊢
  split at h
  · exact hk _ _ h
  · exact h.elim
theorem cll_m {E : EN} {sta : Bool} {idx : Nat} {st : List AV} {hp : HP} {k k2 : List AV → HP → Prop} (hE : ∀ q ∈ E, Mono q.2.2.2) (hk : ∀ r hq, k r hq → k2 r hq) (h : cll E sta idx st hp k) : cll E sta idx st hp k2 := by
  unfold cll at h ⊢
  split at h
  · next b9 n9 sp9 hq =>
    split at h
    · split at h
      · split at h
        · exact hE _ (lk_mem hq) _ _ _ _ (fun v hp2 => hk _ _) h
        · exact h.elim
      · exact h.elim
    · exact h.elim
  · exact h.elim
theorem stI_m {K : LKS} {E : EN} {nL : Nat} {ret : Option FieldType} {sc : Option (Nat × (Nat → Int32))} {Q : QP} (hE : ∀ q ∈ E, Mono q.2.2.2) {G G2 : GP} (hG : ∀ pc lv st hp, G pc lv st hp → G2 pc lv st hp) {i : Instr} {nx : Nat} {tg : List Nat} {lv : LV} {st : List AV} {hp : HP} (h : stI K E nL ret sc Q G i nx tg lv st hp) : stI K E nL ret sc Q G2 i nx tg lv st hp := by
  cases i with
  | iload n => 
    unfold stI at h ⊢
    dsimp only at h ⊢
    refine ldI_m ?_ h
    exact fun v => hG _ _ _ _
  | iload_n n => 
    unfold stI at h ⊢
    dsimp only at h ⊢
    refine ldI_m ?_ h
    exact fun v => hG _ _ _ _
  | lload n => 
    unfold stI at h ⊢
    dsimp only at h ⊢
    refine ldL_m ?_ h
    exact fun v => hG _ _ _ _
  | lload_n n => 
    unfold stI at h ⊢
    dsimp only at h ⊢
    refine ldL_m ?_ h
    exact fun v => hG _ _ _ _
  | aload n => 
    unfold stI at h ⊢
    dsimp only at h ⊢
    refine ldA_m ?_ h
    exact fun v => hG _ _ _ _
  | aload_n n => 
    unfold stI at h ⊢
    dsimp only at h ⊢
    refine ldA_m ?_ h
    exact fun v => hG _ _ _ _
  | istore n => 
    unfold stI at h ⊢
    dsimp only at h ⊢
    refine pI_m ?_ h
    exact fun x r => nb_m (hG _ _ _ _)
  | istore_n n => 
    unfold stI at h ⊢
    dsimp only at h ⊢
    refine pI_m ?_ h
    exact fun x r => nb_m (hG _ _ _ _)
  | lstore n => 
    unfold stI at h ⊢
    dsimp only at h ⊢
    refine pL_m ?_ h
    exact fun x r => nb_m (hG _ _ _ _)
  | lstore_n n => 
    unfold stI at h ⊢
    dsimp only at h ⊢
    refine pL_m ?_ h
    exact fun x r => nb_m (hG _ _ _ _)
  | astore n => 
    unfold stI at h ⊢
    dsimp only at h ⊢
    refine pA_m ?_ ?_ h
    · exact fun _ _ _ => nb_m (hG _ _ _ _)
    · exact fun k r h => match k, h with
        | 0, h => h
        | _ + 1, h => nb_m (hG _ _ _ _) h
  | astore_n n => 
    unfold stI at h ⊢
    dsimp only at h ⊢
    refine pA_m ?_ ?_ h
    · exact fun _ _ _ => nb_m (hG _ _ _ _)
    · exact fun k r h => match k, h with
        | 0, h => h
        | _ + 1, h => nb_m (hG _ _ _ _) h
  | iinc n d => 
    unfold stI at h ⊢
    dsimp only at h ⊢
    refine ldI_m ?_ h
    exact fun v => pI_m (fun x r => acK_m (fun y => nb_m (hG _ _ _ _)))
  | iconst d => 
    unfold stI at h ⊢
    dsimp only at h ⊢
    refine csK_m ?_ h
    exact fun x => hG _ _ _ _
  | bipush d => 
    unfold stI at h ⊢
    dsimp only at h ⊢
    refine csK_m ?_ h
    exact fun x => hG _ _ _ _
  | sipush d => 
    unfold stI at h ⊢
    dsimp only at h ⊢
    refine csK_m ?_ h
    exact fun x => hG _ _ _ _
  | lconst n => exact hG _ _ _ _ h
  | ldc n => 
    unfold stI at h ⊢
    dsimp only at h ⊢
    split at h
    · exact hG _ _ _ _ h
    · split at h
      · exact hG _ _ _ _ h
      · exact h.elim
  | ldc_w n => 
    unfold stI at h ⊢
    dsimp only at h ⊢
    split at h
    · exact hG _ _ _ _ h
    · split at h
      · exact hG _ _ _ _ h
      · exact h.elim
  | ldc2_w n => 
    unfold stI at h ⊢
    dsimp only at h ⊢
    split at h
    · exact hG _ _ _ _ h
    · exact h.elim
  | getstatic n => 
    unfold stI at h ⊢
    dsimp only at h ⊢
    split at h
    · exact hG _ _ _ _ h
    · exact h.elim
  | iadd => exact pI_m (fun _ _ => pI_m (fun _ _ => hG _ _ _ _)) h
  | isub => exact pI_m (fun _ _ => pI_m (fun _ _ => hG _ _ _ _)) h
  | imul => exact pI_m (fun _ _ => pI_m (fun _ _ => hG _ _ _ _)) h
  | iand => exact pI_m (fun _ _ => pI_m (fun _ _ => hG _ _ _ _)) h
  | ior => exact pI_m (fun _ _ => pI_m (fun _ _ => hG _ _ _ _)) h
  | ixor => exact pI_m (fun _ _ => pI_m (fun _ _ => hG _ _ _ _)) h
  | ishl => exact pI_m (fun _ _ => pI_m (fun _ _ => hG _ _ _ _)) h
  | ishr => exact pI_m (fun _ _ => pI_m (fun _ _ => hG _ _ _ _)) h
  | iushr => exact pI_m (fun _ _ => pI_m (fun _ _ => hG _ _ _ _)) h
  | idiv => exact pI_m (fun _ _ => pI_m (fun _ _ h => ⟨h.1, hG _ _ _ _ h.2⟩)) h
  | irem => exact pI_m (fun _ _ => pI_m (fun _ _ h => ⟨h.1, hG _ _ _ _ h.2⟩)) h
  | ladd => exact pL_m (fun _ _ => pL_m (fun _ _ => hG _ _ _ _)) h
  | lsub => exact pL_m (fun _ _ => pL_m (fun _ _ => hG _ _ _ _)) h
  | lmul => exact pL_m (fun _ _ => pL_m (fun _ _ => hG _ _ _ _)) h
  | land => exact pL_m (fun _ _ => pL_m (fun _ _ => hG _ _ _ _)) h
  | lor => exact pL_m (fun _ _ => pL_m (fun _ _ => hG _ _ _ _)) h
  | lxor => exact pL_m (fun _ _ => pL_m (fun _ _ => hG _ _ _ _)) h
  | lshl => exact pI_m (fun _ _ => pL_m (fun _ _ => hG _ _ _ _)) h
  | lshr => exact pI_m (fun _ _ => pL_m (fun _ _ => hG _ _ _ _)) h
  | lushr => exact pI_m (fun _ _ => pL_m (fun _ _ => hG _ _ _ _)) h
  | i2l => exact pI_m (fun _ _ => hG _ _ _ _) h
  | l2i => exact pL_m (fun _ _ => hG _ _ _ _) h
  | i2b => exact pI_m (fun _ _ => hG _ _ _ _) h
  | i2s => exact pI_m (fun _ _ => hG _ _ _ _) h
  | i2c => exact pI_m (fun _ _ => hG _ _ _ _) h
  | lcmp => exact pL_m (fun _ _ => pL_m (fun _ _ => hG _ _ _ _)) h
  | dup => exact pV_m (fun _ _ => one_m (hG _ _ _ _)) h
  | dup2 => exact pV_m (fun _ _ => pV_m (fun _ _ => one_m (one_m (hG _ _ _ _)))) h
  | pop => exact pV_m (fun _ _ => one_m (hG _ _ _ _)) h
  | if_icmp cd off => cases cd <;> exact pI_m (fun _ _ => pI_m (fun _ _ => tg1_m (fun _ h => ⟨fun z => hG _ _ _ _ (h.1 z), fun z => hG _ _ _ _ (h.2 z)⟩))) h
  | ifCond cd off => cases cd <;> exact pI_m (fun _ _ => tg1_m (fun _ h => ⟨fun z => hG _ _ _ _ (h.1 z), fun z => hG _ _ _ _ (h.2 z)⟩)) h
  | goto off => 
    unfold stI at h ⊢
    dsimp only at h ⊢
    refine tg1_m ?_ h
    exact fun _ => hG _ _ _ _
  | tableswitch d lo hi offs => exact pI_m (fun _ _ => swg_m (fun _ _ => swt_m (fun _ => hG _ _ _ _))) h
  | getfield n => 
    unfold stI at h ⊢
    dsimp only at h ⊢
    refine pA_m ?_ ?_ h
    · exact fun _ _ _ => fsh_m (fun _ _ => gtf_m (fun _ => hG _ _ _ _))
    intro n2 r h
    by_cases hn : 10 ≤ n2
    · obtain ⟨m2, rfl⟩ : ∃ m2, n2 = m2 + 10 := ⟨n2 - 10, by omega⟩
      refine ⟨h.1, ?_⟩
      have h2 := h.2
      (try dsimp only at h2 ⊢)
      split at h2
      · exact hG _ _ _ _ h2
      · exact hG _ _ _ _ h2
      · exact h2.elim
    · have : n2 = 0 ∨ n2 = 1 ∨ n2 = 2 ∨ n2 = 3 ∨ n2 = 4 ∨ n2 = 5 ∨ n2 = 6 ∨ n2 = 7 ∨ n2 = 8 ∨ n2 = 9 := by omega
      rcases this with rfl | rfl | rfl | rfl | rfl | rfl | rfl | rfl | rfl | rfl <;> exact h.elim
  | putfield n => exact pV_m (fun _ _ => pR_m (fun _ _ _ => fsh_m (fun _ _ => ptf_m (fun _ => hG _ _ _ _)))) h
  | iaload => exact pI_m (fun _ _ => pA_m (fun _ _ _ => ash_m (fun _ h => ⟨h.1, hG _ _ _ _ h.2⟩)) (fun n r h => match n, h with
    | 1, h => scq_m (fun _ h => ⟨h.1, hG _ _ _ _ h.2⟩) h
    | 2, h => ⟨h.1, hG _ _ _ _ h.2⟩
    | 0, h => h
    | _ + 3, h => h)) h
  | laload => exact pI_m (fun _ _ => pR_m (fun _ _ _ => ash_m (fun _ h => ⟨h.1, hG _ _ _ _ h.2⟩))) h
  | baload => 
    refine pI_m (fun _ _ => pA_m (fun _ _ _ => ash_m (fun _ h => ⟨h.1, hG _ _ _ _ h.2⟩)) (fun n2 r h => ?_)) h
    by_cases hn : 11 ≤ n2
    · obtain ⟨m2, rfl⟩ : ∃ m2, n2 = m2 + 11 := ⟨n2 - 11, by omega⟩
      exact ⟨h.1, hG _ _ _ _ h.2⟩
    · have : n2 = 0 ∨ n2 = 1 ∨ n2 = 2 ∨ n2 = 3 ∨ n2 = 4 ∨ n2 = 5 ∨ n2 = 6 ∨ n2 = 7 ∨ n2 = 8 ∨ n2 = 9 ∨ n2 = 10 := by omega
      rcases this with rfl | rfl | rfl | rfl | rfl | rfl | rfl | rfl | rfl | rfl | rfl <;> exact h.elim
  | aaload => exact pI_m (fun _ _ => pR_m (fun _ _ _ => arf_m (fun _ _ _ h => ⟨h.1, hG _ _ _ _ h.2⟩))) h
  | iastore => exact pI_m (fun _ _ => pI_m (fun _ _ => pR_m (fun _ _ _ => ash_m (fun _ h => ⟨h.1, hG _ _ _ _ h.2⟩)))) h
  | bastore => exact pI_m (fun _ _ => pI_m (fun _ _ => pR_m (fun _ _ _ => ash_m (fun _ h => ⟨h.1, hG _ _ _ _ h.2⟩)))) h
  | lastore => exact pL_m (fun _ _ => pI_m (fun _ _ => pR_m (fun _ _ _ => ash_m (fun _ h => ⟨h.1, hG _ _ _ _ h.2⟩)))) h
  | arraylength => 
    unfold stI at h ⊢
    dsimp only at h ⊢
    refine pA_m ?_ ?_ h
    · exact fun _ _ _ => aln_m (fun _ => hG _ _ _ _)
    intro n2 r h
    by_cases hn : 11 ≤ n2
    · obtain ⟨m2, rfl⟩ : ∃ m2, n2 = m2 + 11 := ⟨n2 - 11, by omega⟩
      exact ⟨h.1, hG _ _ _ _ h.2⟩
    · have : n2 = 1 ∨ n2 = 0 ∨ n2 = 2 ∨ n2 = 3 ∨ n2 = 4 ∨ n2 = 5 ∨ n2 = 6 ∨ n2 = 7 ∨ n2 = 8 ∨ n2 = 9 ∨ n2 = 10 := by omega
      rcases this with rfl | this
      · exact scq_m (fun _ => hG _ _ _ _) h
      · rcases this with rfl | rfl | rfl | rfl | rfl | rfl | rfl | rfl | rfl | rfl <;> exact h.elim
  | invokevirtual n => exact cll_m hE (fun _ _ => hG _ _ _ _) h
  | invokestatic n => exact cll_m hE (fun _ _ => hG _ _ _ _) h
  | ireturn => exact h
  | lreturn => exact h
  | areturn => exact h
  | return_ => exact h
  | _ => exact h
theorem stp_m {P : PG} {K : LKS} {E : EN} {nL : Nat} {ret : Option FieldType} {sc : Option (Nat × (Nat → Int32))} {Q : QP} (hE : ∀ q ∈ E, Mono q.2.2.2) {G G2 : GP} (hG : ∀ pc lv st hp, G pc lv st hp → G2 pc lv st hp) {pc : Nat} {lv : LV} {st : List AV} {hp : HP} (h : stp P K E nL ret sc Q G pc lv st hp) : stp P K E nL ret sc Q G2 pc lv st hp := by
  unfold stp at h ⊢
  split at h
  · exact stI_m hE hG h
  · exact h.elim
def mem_n : List Nat → Nat → Bool
  | [], _ => false
  | a :: t, n => match Nat.beq a n with
    | true => true
    | false => mem_n t n
/-- at most n steps, up to the places of a list -/
def wpn (P : PG) (K : LKS) (E : EN) (nL : Nat) (ret : Option FieldType) (sc : Option (Nat × (Nat → Int32))) (Q : QP) (G : GP) (stops : List Nat) : Nat → GP
  | 0 => G
  | n + 1 => fun pc lv st hp => match mem_n stops pc with
    | true => G pc lv st hp
    | false => stp P K E nL ret sc Q (wpn P K E nL ret sc Q G stops n) pc lv st hp
/-- a predicate that a step back keeps -/
def Cl (P : PG) (K : LKS) (E : EN) (nL : Nat) (ret : Option FieldType) (sc : Option (Nat × (Nat → Int32))) (Q : QP) (G : GP) : Prop := (∀ q ∈ E, Mono q.2.2.2) ∧ (∀ pc lv st hp, stp P K E nL ret sc Q G pc lv st hp → G pc lv st hp) ∧ (∀ pc lv st hp hq, heq hp hq → G pc lv st hp → G pc lv st hq) ∧ ∀ pc lv lw st hp, lvs lv lw → G pc lv st hp → G pc lw st hp
theorem run_n {P : PG} {K : LKS} {E : EN} {nL : Nat} {ret : Option FieldType} {sc : Option (Nat × (Nat → Int32))} {Q : QP} {G : GP} (hG : Cl P K E nL ret sc Q G) (stops : List Nat) : ∀ (n pc : Nat) (lv : LV) (st : List AV) (hp : HP), wpn P K E nL ret sc Q G stops n pc lv st hp → G pc lv st hp
  | 0, _, _, _, _, h => h
  | n + 1, pc, lv, st, hp, h => by
    unfold wpn at h
    split at h
    · exact h
    · exact hG.2.1 _ _ _ _ (stp_m hG.1 (run_n hG stops n) h)
theorem run {P : PG} {K : LKS} {E : EN} {nL : Nat} {ret : Option FieldType} {sc : Option (Nat × (Nat → Int32))} {Q : QP} {G : GP} (hG : Cl P K E nL ret sc Q G) (stops : List Nat) (n : Nat) {pc : Nat} {lv : LV} {st : List AV} {hp : HP} (h : stp P K E nL ret sc Q (wpn P K E nL ret sc Q G stops n) pc lv st hp) : G pc lv st hp := hG.2.1 _ _ _ _ (stp_m hG.1 (run_n hG stops n) h)
theorem cl_hp {P : PG} {K : LKS} {E : EN} {nL : Nat} {ret : Option FieldType} {sc : Option (Nat × (Nat → Int32))} {Q : QP} {G : GP} (hG : Cl P K E nL ret sc Q G) {pc : Nat} {lv : LV} {st : List AV} {hp hq : HP} (h : heq hp hq) (hk : G pc lv st hp) : G pc lv st hq := hG.2.2.1 _ _ _ _ _ h hk
theorem cl_lv {P : PG} {K : LKS} {E : EN} {nL : Nat} {ret : Option FieldType} {sc : Option (Nat × (Nat → Int32))} {Q : QP} {G : GP} (hG : Cl P K E nL ret sc Q G) {pc : Nat} (lv : LV) {lw : LV} {st : List AV} {hp : HP} (h : lvs lv lw) (hk : G pc lv st hp) : G pc lw st hp := hG.2.2.2 _ _ _ _ _ h hk
theorem cl_use {P : PG} {K : LKS} {E : EN} {nL : Nat} {ret : Option FieldType} {sc : Option (Nat × (Nat → Int32))} {Q : QP} {G : GP} (hG : Cl P K E nL ret sc Q G) {pc : Nat} {lv lw : LV} {st : List AV} {hp : HP} (hk : G pc lv st hp) (h : lvs lv lw) : G pc lw st hp := hG.2.2.2 _ _ _ _ _ h hk
def lva : Nat → List AV → LV
  | _, [] => []
  | i, v :: vs => (i, v) :: lva (match av_two v with
    | true => i + 2
    | false => i + 1) vs
theorem lva_eq {ad ex : Nat → Nat} {fm : Value} (hf : fm.category = 1) : ∀ (as : List AV) (i : Nat), lv_args i (as.map (cv ad ex fm)) = lvm ad ex fm (lva i as)
  | [], _ => rfl
  | v :: vs, i => by
    show (i, cv ad ex fm v) :: lv_args (if (cv ad ex fm v).category = 2 then i + 2 else i + 1) (vs.map (cv ad ex fm)) = (i, cv ad ex fm v) :: lvm ad ex fm (lva _ vs)
    have h := cv_two (ad := ad) (ex := ex) hf v
    cases hv : av_two v with
    | true =>
      rw [hv] at h
      rw [if_pos (eq_of_beq h.symm), lva_eq hf vs]
    | false =>
      rw [hv] at h
      rw [if_neg (fun z => by rw [z] at h; cases h), lva_eq hf vs]
theorem lva_len {ad ex : Nat → Nat} {fm : Value} (hf : fm.category = 1) : ∀ as : List AV, (lg_sl (as.map (cv ad ex fm))).length = wid as
  | [] => rfl
  | v :: vs => by
    have ih := lva_len (ad := ad) (ex := ex) hf vs
    unfold lg_sl at ih ⊢
    rw [List.map_cons, List.flatMap_cons, List.length_append, ih]
    show _ = (match av_two v with
      | true => 2
      | false => 1) + wid vs
    have h := cv_two (ad := ad) (ex := ex) hf v
    cases hv : av_two v with
    | true =>
      rw [hv] at h
      rw [if_pos (eq_of_beq h.symm)]
      rfl
    | false =>
      rw [hv] at h
      rw [if_neg (fun z => by rw [z] at h; cases h)]
      rfl
theorem lva_vld : ∀ (as : List AV) (i : Nat), (∀ v ∈ as, vld v) → ∀ q ∈ lva i as, vld q.2
  | [], _, _, q, h => by cases h
  | v :: vs, i, hv, q, h => by
    rcases List.mem_cons.mp h with rfl | h
    · exact vs_hd hv
    · exact lva_vld vs _ (vs_tl hv) q h
theorem ctr_of {own : String} (r : MR) (sp : SP) {P : PG} {K : LKS} {E : EN} (hy : plainName r.1.cls = true) (ho : r.1.cls = own) (hP : pgk r.2.1 P) (hK : lkok own K) (hE : ∀ q ∈ E, SC own r.2.2.2.2.1 r.2.2.2.2.2 q) (hw : ∀ as hp Q, sp as hp Q → wid as ≤ r.2.2.1)
    (body : ∀ (Q : QP) (G : GP), QInv Q → Cl P K E r.2.2.1 r.2.2.2.1 none Q G → ∀ as hp, sp as hp Q → G 0 (lva 0 as) [] hp) : Ctr r sp := by
  intro l D ad cy ex fm hinj hfm as hp Q hQi hvs hsp
  refine Met.ofW (cc := r.2.1) (maxL := r.2.2.1) (ret := r.2.2.2.1) hy rfl ?_
  intro p e s m args below meth c s₁ B hml hv
  obtain ⟨rfl, hP0, hK0, hX0⟩ := hv
  have hts : ∀ w ∈ Gw, w.before (as.map (cv ad ex fm)).toArray s = true := fun w h => atoms_spec (ws := mr_ws r) B.pre w (List.mem_cons_of_mem _ h)
  have hown : s.vm.findClass own = some m.cls := by rw [← ho]; exact findClass_of_methodNamed B.named
  have hlocks := B.notSynchronized
  have hr := B.returns
  have hC : CX p (headSpec (mr_ws r) (mr_rm r)).room s m (as.map (cv ad ex fm)).toArray c r.2.1 own r.2.2.1 0 0 D ad cy ex fm (ab_A ad) none := ⟨B.exec, B.bytes, hml, hown, hts, hK0, hinj, fun _ h => h, hX0, hfm, ⟨Nat.zero_le _, Nat.zero_le _⟩, fun q h => by cases h⟩
  have hl := lv_entry (as.map (cv ad ex fm)) (n := r.2.2.1) (by rw [lva_len hfm]; exact hw as hp Q hsp)
  rw [lg_entry_eq]
  generalize (lg_sl (as.map (cv ad ex fm)) ++ List.replicate (r.2.2.1 - (lg_sl (as.map (cv ad ex fm))).length) Slot.unset).toArray = ls at hl ⊢
  rw [lva_eq hfm] at hl
  have hR : RTN (OK p l e (headSpec (mr_ws r) (mr_rm r)).room s m (as.map (cv ad ex fm)).toArray below meth c r.2.2.1 0 0 (MQ below (CQ D ad cy ex fm Q) (as.map (cv ad ex fm)).toArray s 0 0 (ab_A ad)) D ad cy ex fm (ab_A ad)) r.2.1 r.2.2.2.1 Q := by
    refine ⟨fun pc lv x hp hd h hv hs H locs ls hP hS hl => ?_, fun pc lv x hp hd h hv hs H locs ls hP hS hl => ?_, fun pc lv k hp hd h hv hs H locs ls hP hS hl => ?_, fun pc lv hp hd h hv hs H locs ls hP hS hl => ?_⟩
    · have key : ∃ ty, r.2.2.2.1 = some ty ∧ narrow ty (.int x) = .int x ∧ Q (some (vI x)) hp := by
        unfold rtI at h
        split at h
        · next he => exact ⟨_, he, rfl, h⟩
        · next he => exact ⟨_, he, by rcases h.1 with rfl | rfl <;> rfl, h.2⟩
        · next ty _ _ he => exact ⟨ty, he, h.1, h.2⟩
        · exact h.elim
      obtain ⟨ty, k1, k2, k3⟩ := key
      exact W.zret (ty := ty) hC.1 hC.2.1 (hr.trans k1) k2 (fun t ht hW => ⟨⟨some (vI x), hp, rfl, fun a ha => by cases ha; trivial, k3, by rw [ht]; exact hP⟩, hS.F ht⟩) hS.2.2 hd
    · have key : r.2.2.2.1 = some .long ∧ Q (some (vL x)) hp := by
        unfold rtL at h
        split at h
        · next he => exact ⟨he, h⟩
        · exact h.elim
      exact W.lret hC.1 hC.2.1 (hr.trans key.1) (fun t ht hW => ⟨⟨some (vL x), hp, rfl, fun a ha => by cases ha; trivial, key.2, by rw [ht]; exact hP⟩, hS.F ht⟩) hS.2.2 hd
    · have key : ∃ n d, k = n + 1 ∧ r.2.2.2.1 = some (.object d) ∧ Q (some (vX k)) hp := by
        unfold rtA at h
        split at h
        · next n d he => exact ⟨_, _, rfl, he, h⟩
        · exact h.elim
      obtain ⟨n, d, rfl, k2, k3⟩ := key
      exact W.aret (v := .ref (ex (n + 1))) hC.1 hC.2.1 (hr.trans k2) (Or.inl ⟨_, rfl⟩) (Or.inr ⟨_, rfl⟩) (fun t ht hW => ⟨⟨some (vX (n + 1)), hp, rfl, fun a ha => by cases ha; trivial, k3, by rw [ht]; exact hP⟩, hS.F ht⟩) hS.2.2 hd
    · have key : r.2.2.2.1 = none ∧ Q none hp := by
        unfold rtV at h
        split at h
        · next he => exact ⟨he, h⟩
        · exact h.elim
      exact W.vret hC.1 hC.2.1 (hr.trans key.1) (fun t ht hW => ⟨⟨none, hp, rfl, (fun a ha => by cases ha), key.2, by rw [ht]; exact hP⟩, hS.F ht⟩) hS.2.2 hd
  have hCl : Cl P K E r.2.2.1 r.2.2.2.1 none Q (OK p l e (headSpec (mr_ws r) (mr_rm r)).room s m (as.map (cv ad ex fm)).toArray below meth c r.2.2.1 0 0 (MQ below (CQ D ad cy ex fm Q) (as.map (cv ad ex fm)).toArray s 0 0 (ab_A ad)) D ad cy ex fm (ab_A ad)) :=
    ⟨fun q hq => (hE q hq).1, fun pc lv st hp h => ok_stp hC hP hK hE (Nat.le_refl _) (Nat.le_refl _) hR h, fun pc lv st hp hq h1 h2 => OK_inv h1 h2, fun pc lv lw st hp h1 h2 => OK_lv h1 h2⟩
  exact body Q _ hQi hCl as hp hsp (lva_vld as 0 hvs) (fun v h => by cases h) s.heap [] ls hP0 va_S.rf hl
end
section
/-! link tables, method records: by program -/
theorem uw_X0 : ∀ w ∈ u_ws RX0 TX0 3, w ∈ Gw := by
  have h : (u_ws RX0 TX0 3).all (fun w => decide (w ∈ lw_tbl) && goodWord w) = true := by decide +kernel
  intro w hw
  have h1 := List.all_eq_true.mp h w hw
  simp only [Bool.and_eq_true, decide_eq_true_eq] at h1
  exact List.mem_filter.mpr h1
theorem okd_4 : okd 4 RX0 TX0 3 := by
  refine ⟨_, tyX0, rfl, rfl, rfl, uw_X0, tyX0_ok, nmX0, by decide +kernel, ?_⟩
  intro j hj f hf
  have h : ∀ j, j < 3 → (match kd 4 with | .inl o => (match nth o.2 j with | some f => (match f.1 with | 0 => decide (tyX0 j = .int) && !(TX0 j).2.2.2 | 1 => decide (tyX0 j = .long) && !(TX0 j).2.2.2 | 2 => decide (tyX0 j = .boolean) && !(TX0 j).2.2.2 | _ => true) | none => true) | .inr _ => true) = true := by decide +kernel
  have h1 := h j hj
  have h2 : nth (match kd 4 with | .inl o => o.2 | .inr _ => []) j = some f := hf
  simp only [kd] at h1 h2
  rw [h2] at h1
  obtain ⟨t, a, b⟩ := f
  match t, h1 with
  | 0, h1 => simpa [shp] using h1
  | 1, h1 => simpa [shp] using h1
  | 2, h1 => simpa [shp] using h1
  | _ + 3, _ => trivial
theorem uw_X1 : ∀ w ∈ u_ws RX1 TX1 7, w ∈ Gw := by
  have h : (u_ws RX1 TX1 7).all (fun w => decide (w ∈ lw_tbl) && goodWord w) = true := by decide +kernel
  intro w hw
  have h1 := List.all_eq_true.mp h w hw
  simp only [Bool.and_eq_true, decide_eq_true_eq] at h1
  exact List.mem_filter.mpr h1
theorem okd_3 : okd 3 RX1 TX1 7 := by
  refine ⟨_, tyX1, rfl, rfl, rfl, uw_X1, tyX1_ok, nmX1, by decide +kernel, ?_⟩
  intro j hj f hf
  have h : ∀ j, j < 7 → (match kd 3 with | .inl o => (match nth o.2 j with | some f => (match f.1 with | 0 => decide (tyX1 j = .int) && !(TX1 j).2.2.2 | 1 => decide (tyX1 j = .long) && !(TX1 j).2.2.2 | 2 => decide (tyX1 j = .boolean) && !(TX1 j).2.2.2 | _ => true) | none => true) | .inr _ => true) = true := by decide +kernel
  have h1 := h j hj
  have h2 : nth (match kd 3 with | .inl o => o.2 | .inr _ => []) j = some f := hf
  simp only [kd] at h1 h2
  rw [h2] at h1
  obtain ⟨t, a, b⟩ := f
  match t, h1 with
  | 0, h1 => simpa [shp] using h1
  | 1, h1 => simpa [shp] using h1
  | 2, h1 => simpa [shp] using h1
  | _ + 3, _ => trivial
theorem uw_X2 : ∀ w ∈ u_ws RX2 TX2 5, w ∈ Gw := by
  have h : (u_ws RX2 TX2 5).all (fun w => decide (w ∈ lw_tbl) && goodWord w) = true := by decide +kernel
  intro w hw
  have h1 := List.all_eq_true.mp h w hw
  simp only [Bool.and_eq_true, decide_eq_true_eq] at h1
  exact List.mem_filter.mpr h1
theorem okd_2 : okd 2 RX2 TX2 5 := by
  refine ⟨_, tyX2, rfl, rfl, rfl, uw_X2, tyX2_ok, nmX2, by decide +kernel, ?_⟩
  intro j hj f hf
  have h : ∀ j, j < 5 → (match kd 2 with | .inl o => (match nth o.2 j with | some f => (match f.1 with | 0 => decide (tyX2 j = .int) && !(TX2 j).2.2.2 | 1 => decide (tyX2 j = .long) && !(TX2 j).2.2.2 | 2 => decide (tyX2 j = .boolean) && !(TX2 j).2.2.2 | _ => true) | none => true) | .inr _ => true) = true := by decide +kernel
  have h1 := h j hj
  have h2 : nth (match kd 2 with | .inl o => o.2 | .inr _ => []) j = some f := hf
  simp only [kd] at h1 h2
  rw [h2] at h1
  obtain ⟨t, a, b⟩ := f
  match t, h1 with
  | 0, h1 => simpa [shp] using h1
  | 1, h1 => simpa [shp] using h1
  | 2, h1 => simpa [shp] using h1
  | _ + 3, _ => trivial
theorem uw_X3 : ∀ w ∈ u_ws RX3 TX3 13, w ∈ Gw := by
  have h : (u_ws RX3 TX3 13).all (fun w => decide (w ∈ lw_tbl) && goodWord w) = true := by decide +kernel
  intro w hw
  have h1 := List.all_eq_true.mp h w hw
  simp only [Bool.and_eq_true, decide_eq_true_eq] at h1
  exact List.mem_filter.mpr h1
theorem okd_1 : okd 1 RX3 TX3 13 := by
  refine ⟨_, tyX3, rfl, rfl, rfl, uw_X3, tyX3_ok, nmX3, by decide +kernel, ?_⟩
  intro j hj f hf
  have h : ∀ j, j < 13 → (match kd 1 with | .inl o => (match nth o.2 j with | some f => (match f.1 with | 0 => decide (tyX3 j = .int) && !(TX3 j).2.2.2 | 1 => decide (tyX3 j = .long) && !(TX3 j).2.2.2 | 2 => decide (tyX3 j = .boolean) && !(TX3 j).2.2.2 | _ => true) | none => true) | .inr _ => true) = true := by decide +kernel
  have h1 := h j hj
  have h2 : nth (match kd 1 with | .inl o => o.2 | .inr _ => []) j = some f := hf
  simp only [kd] at h1 h2
  rw [h2] at h1
  obtain ⟨t, a, b⟩ := f
  match t, h1 with
  | 0, h1 => simpa [shp] using h1
  | 1, h1 => simpa [shp] using h1
  | 2, h1 => simpa [shp] using h1
  | _ + 3, _ => trivial
theorem uw_X4 : ∀ w ∈ u_ws RX4 TX4 11, w ∈ Gw := by
  have h : (u_ws RX4 TX4 11).all (fun w => decide (w ∈ lw_tbl) && goodWord w) = true := by decide +kernel
  intro w hw
  have h1 := List.all_eq_true.mp h w hw
  simp only [Bool.and_eq_true, decide_eq_true_eq] at h1
  exact List.mem_filter.mpr h1
theorem okd_0 : okd 0 RX4 TX4 11 := by
  refine ⟨_, tyX4, rfl, rfl, rfl, uw_X4, tyX4_ok, nmX4, by decide +kernel, ?_⟩
  intro j hj f hf
  have h : ∀ j, j < 11 → (match kd 0 with | .inl o => (match nth o.2 j with | some f => (match f.1 with | 0 => decide (tyX4 j = .int) && !(TX4 j).2.2.2 | 1 => decide (tyX4 j = .long) && !(TX4 j).2.2.2 | 2 => decide (tyX4 j = .boolean) && !(TX4 j).2.2.2 | _ => true) | none => true) | .inr _ => true) = true := by decide +kernel
  have h1 := h j hj
  have h2 : nth (match kd 0 with | .inl o => o.2 | .inr _ => []) j = some f := hf
  simp only [kd] at h1 h2
  rw [h2] at h1
  obtain ⟨t, a, b⟩ := f
  match t, h1 with
  | 0, h1 => simpa [shp] using h1
  | 1, h1 => simpa [shp] using h1
  | 2, h1 => simpa [shp] using h1
  | _ + 3, _ => trivial
theorem uw_X5 : ∀ w ∈ u_ws RX5 TX5 19, w ∈ Gw := by
  have h : (u_ws RX5 TX5 19).all (fun w => decide (w ∈ lw_tbl) && goodWord w) = true := by decide +kernel
  intro w hw
  have h1 := List.all_eq_true.mp h w hw
  simp only [Bool.and_eq_true, decide_eq_true_eq] at h1
  exact List.mem_filter.mpr h1
theorem okd_5 : okd 5 RX5 TX5 19 := by
  refine ⟨_, tyX5, rfl, rfl, rfl, uw_X5, tyX5_ok, nmX5, by decide +kernel, ?_⟩
  intro j hj f hf
  have h : ∀ j, j < 19 → (match kd 5 with | .inl o => (match nth o.2 j with | some f => (match f.1 with | 0 => decide (tyX5 j = .int) && !(TX5 j).2.2.2 | 1 => decide (tyX5 j = .long) && !(TX5 j).2.2.2 | 2 => decide (tyX5 j = .boolean) && !(TX5 j).2.2.2 | _ => true) | none => true) | .inr _ => true) = true := by decide +kernel
  have h1 := h j hj
  have h2 : nth (match kd 5 with | .inl o => o.2 | .inr _ => []) j = some f := hf
  simp only [kd] at h1 h2
  rw [h2] at h1
  obtain ⟨t, a, b⟩ := f
  match t, h1 with
  | 0, h1 => simpa [shp] using h1
  | 1, h1 => simpa [shp] using h1
  | 2, h1 => simpa [shp] using h1
  | _ + 3, _ => trivial
def K_X0 : LKS := ([(9, 4, 0), (15, 4, 1), (18, 4, 2)], [], [], [], [], [])
theorem K_X0_ok : lkok RX0 K_X0 := ⟨List.forall_mem_cons.mpr ⟨⟨_, _, _, okd_4, by decide, gw_227⟩, List.forall_mem_cons.mpr ⟨⟨_, _, _, okd_4, by decide, gw_229⟩, List.forall_mem_cons.mpr ⟨⟨_, _, _, okd_4, by decide, gw_231⟩, fun _ h => absurd h List.not_mem_nil⟩⟩⟩, fun _ h => absurd h List.not_mem_nil, fun _ h => absurd h List.not_mem_nil, fun _ h => absurd h List.not_mem_nil, fun _ h => absurd h List.not_mem_nil, fun _ h => absurd h List.not_mem_nil⟩
def K_X1 : LKS := ([(96, 1, 1), (79, 1, 4), (114, 1, 12), (9, 3, 0), (15, 3, 1), (19, 3, 2), (22, 3, 3), (25, 3, 4), (28, 3, 5), (31, 3, 6)], [], [], [(41, vX 22), (51, vX 24), (53, vX 26), (58, vX 28), (70, vX 30), (75, vX 32), (77, vX 34), (81, vX 36), (132, vX 12), (134, vX 14), (136, vX 16), (138, vX 18), (140, vX 20), (142, vX 10), (117, vX 38), (119, vX 40)], [], [])
theorem K_X1_ok : lkok RX1 K_X1 := ⟨List.forall_mem_cons.mpr ⟨⟨_, _, _, okd_1, by decide, gw_139⟩, List.forall_mem_cons.mpr ⟨⟨_, _, _, okd_1, by decide, gw_145⟩, List.forall_mem_cons.mpr ⟨⟨_, _, _, okd_1, by decide, gw_160⟩, List.forall_mem_cons.mpr ⟨⟨_, _, _, okd_3, by decide, gw_195⟩, List.forall_mem_cons.mpr ⟨⟨_, _, _, okd_3, by decide, gw_196⟩, List.forall_mem_cons.mpr ⟨⟨_, _, _, okd_3, by decide, gw_198⟩, List.forall_mem_cons.mpr ⟨⟨_, _, _, okd_3, by decide, gw_200⟩, List.forall_mem_cons.mpr ⟨⟨_, _, _, okd_3, by decide, gw_201⟩, List.forall_mem_cons.mpr ⟨⟨_, _, _, okd_3, by decide, gw_202⟩, List.forall_mem_cons.mpr ⟨⟨_, _, _, okd_3, by decide, gw_203⟩, fun _ h => absurd h List.not_mem_nil⟩⟩⟩⟩⟩⟩⟩⟩⟩⟩, fun _ h => absurd h List.not_mem_nil, fun _ h => absurd h List.not_mem_nil, List.forall_mem_cons.mpr ⟨⟨("SleepWard$Text", 41, "shut", 22), List.mem_of_getElem? (i := 6) rfl, rfl, rfl, rfl, by decide⟩, List.forall_mem_cons.mpr ⟨⟨("SleepWard$Text", 51, "open", 24), List.mem_of_getElem? (i := 7) rfl, rfl, rfl, rfl, by decide⟩, List.forall_mem_cons.mpr ⟨⟨("SleepWard$Text", 53, "height", 26), List.mem_of_getElem? (i := 8) rfl, rfl, rfl, rfl, by decide⟩, List.forall_mem_cons.mpr ⟨⟨("SleepWard$Text", 58, "lamp", 28), List.mem_of_getElem? (i := 9) rfl, rfl, rfl, rfl, by decide⟩, List.forall_mem_cons.mpr ⟨⟨("SleepWard$Text", 70, "river", 30), List.mem_of_getElem? (i := 10) rfl, rfl, rfl, rfl, by decide⟩, List.forall_mem_cons.mpr ⟨⟨("SleepWard$Text", 75, "dry", 32), List.mem_of_getElem? (i := 11) rfl, rfl, rfl, rfl, by decide⟩, List.forall_mem_cons.mpr ⟨⟨("SleepWard$Text", 77, "moon", 34), List.mem_of_getElem? (i := 12) rfl, rfl, rfl, rfl, by decide⟩, List.forall_mem_cons.mpr ⟨⟨("SleepWard$Text", 81, "rounds", 36), List.mem_of_getElem? (i := 13) rfl, rfl, rfl, rfl, by decide⟩, List.forall_mem_cons.mpr ⟨⟨("SleepWard$Text", 132, "sloper", 12), List.mem_of_getElem? (i := 1) rfl, rfl, rfl, rfl, by decide⟩, List.forall_mem_cons.mpr ⟨⟨("SleepWard$Text", 134, "lamper", 14), List.mem_of_getElem? (i := 2) rfl, rfl, rfl, rfl, by decide⟩, List.forall_mem_cons.mpr ⟨⟨("SleepWard$Text", 136, "homer", 16), List.mem_of_getElem? (i := 3) rfl, rfl, rfl, rfl, by decide⟩, List.forall_mem_cons.mpr ⟨⟨("SleepWard$Text", 138, "wanderer", 18), List.mem_of_getElem? (i := 4) rfl, rfl, rfl, rfl, by decide⟩, List.forall_mem_cons.mpr ⟨⟨("SleepWard$Text", 140, "mooner", 20), List.mem_of_getElem? (i := 5) rfl, rfl, rfl, rfl, by decide⟩, List.forall_mem_cons.mpr ⟨⟨("SleepWard$Text", 142, "walker", 10), List.mem_of_getElem? (i := 0) rfl, rfl, rfl, rfl, by decide⟩, List.forall_mem_cons.mpr ⟨⟨("SleepWard$Text", 117, "at", 38), List.mem_of_getElem? (i := 14) rfl, rfl, rfl, rfl, by decide⟩, List.forall_mem_cons.mpr ⟨⟨("SleepWard$Text", 119, "way", 40), List.mem_of_getElem? (i := 15) rfl, rfl, rfl, rfl, by decide⟩, fun _ h => absurd h List.not_mem_nil⟩⟩⟩⟩⟩⟩⟩⟩⟩⟩⟩⟩⟩⟩⟩⟩, fun _ h => absurd h List.not_mem_nil, fun _ h => absurd h List.not_mem_nil⟩
def K_X2 : LKS := ([(9, 2, 0), (15, 2, 1), (18, 2, 2), (21, 2, 3), (24, 2, 4)], [], [], [], [], [])
theorem K_X2_ok : lkok RX2 K_X2 := ⟨List.forall_mem_cons.mpr ⟨⟨_, _, _, okd_2, by decide, gw_108⟩, List.forall_mem_cons.mpr ⟨⟨_, _, _, okd_2, by decide, gw_111⟩, List.forall_mem_cons.mpr ⟨⟨_, _, _, okd_2, by decide, gw_114⟩, List.forall_mem_cons.mpr ⟨⟨_, _, _, okd_2, by decide, gw_117⟩, List.forall_mem_cons.mpr ⟨⟨_, _, _, okd_2, by decide, gw_120⟩, fun _ h => absurd h List.not_mem_nil⟩⟩⟩⟩⟩, fun _ h => absurd h List.not_mem_nil, fun _ h => absurd h List.not_mem_nil, fun _ h => absurd h List.not_mem_nil, fun _ h => absurd h List.not_mem_nil, fun _ h => absurd h List.not_mem_nil⟩
def K_X3 : LKS := ([(100, 2, 0), (103, 2, 1), (106, 2, 2), (109, 2, 3), (112, 2, 4), (9, 1, 0), (15, 1, 1), (19, 1, 2), (23, 1, 3), (26, 1, 4), (29, 1, 5), (32, 1, 6), (35, 1, 7), (38, 1, 8), (41, 1, 9), (44, 1, 10), (49, 1, 11), (53, 1, 12)], [(138, (1103515245))], [(92, (-1))], [], [], [])
theorem K_X3_ok : lkok RX3 K_X3 := ⟨List.forall_mem_cons.mpr ⟨⟨_, _, _, okd_2, by decide, gw_110⟩, List.forall_mem_cons.mpr ⟨⟨_, _, _, okd_2, by decide, gw_113⟩, List.forall_mem_cons.mpr ⟨⟨_, _, _, okd_2, by decide, gw_116⟩, List.forall_mem_cons.mpr ⟨⟨_, _, _, okd_2, by decide, gw_119⟩, List.forall_mem_cons.mpr ⟨⟨_, _, _, okd_2, by decide, gw_122⟩, List.forall_mem_cons.mpr ⟨⟨_, _, _, okd_1, by decide, gw_135⟩, List.forall_mem_cons.mpr ⟨⟨_, _, _, okd_1, by decide, gw_137⟩, List.forall_mem_cons.mpr ⟨⟨_, _, _, okd_1, by decide, gw_140⟩, List.forall_mem_cons.mpr ⟨⟨_, _, _, okd_1, by decide, gw_142⟩, List.forall_mem_cons.mpr ⟨⟨_, _, _, okd_1, by decide, gw_144⟩, List.forall_mem_cons.mpr ⟨⟨_, _, _, okd_1, by decide, gw_147⟩, List.forall_mem_cons.mpr ⟨⟨_, _, _, okd_1, by decide, gw_149⟩, List.forall_mem_cons.mpr ⟨⟨_, _, _, okd_1, by decide, gw_151⟩, List.forall_mem_cons.mpr ⟨⟨_, _, _, okd_1, by decide, gw_153⟩, List.forall_mem_cons.mpr ⟨⟨_, _, _, okd_1, by decide, gw_154⟩, List.forall_mem_cons.mpr ⟨⟨_, _, _, okd_1, by decide, gw_156⟩, List.forall_mem_cons.mpr ⟨⟨_, _, _, okd_1, by decide, gw_157⟩, List.forall_mem_cons.mpr ⟨⟨_, _, _, okd_1, by decide, gw_159⟩, fun _ h => absurd h List.not_mem_nil⟩⟩⟩⟩⟩⟩⟩⟩⟩⟩⟩⟩⟩⟩⟩⟩⟩⟩, List.forall_mem_cons.mpr ⟨gw_450, fun _ h => absurd h List.not_mem_nil⟩, List.forall_mem_cons.mpr ⟨gw_310, fun _ h => absurd h List.not_mem_nil⟩, fun _ h => absurd h List.not_mem_nil, fun _ h => absurd h List.not_mem_nil, fun _ h => absurd h List.not_mem_nil⟩
def K_X4 : LKS := ([(135, 2, 0), (140, 2, 1), (143, 2, 2), (146, 2, 3), (149, 2, 4), (281, 1, 0), (82, 1, 1), (214, 1, 2), (289, 1, 3), (101, 1, 4), (178, 1, 5), (160, 1, 6), (181, 1, 7), (104, 1, 9), (131, 1, 11), (121, 1, 12), (235, 3, 1), (245, 3, 2), (267, 4, 0), (254, 4, 1), (260, 4, 2), (12, 0, 0), (16, 0, 1), (19, 0, 2), (22, 0, 3), (29, 0, 4), (35, 0, 5), (39, 0, 6), (43, 0, 7), (47, 0, 8), (50, 0, 9), (53, 0, 10)], [(62, (-1000000001)), (107, (-1000000002)), (159, (-1000000003)), (170, (-1000000005)), (197, (-1000000004)), (205, (-1000000007)), (259, (-1000000006))], [(298, (255)), (309, (12)), (279, (9))], [], [(292, vX 2)], [])
theorem K_X4_ok : lkok RX4 K_X4 := ⟨List.forall_mem_cons.mpr ⟨⟨_, _, _, okd_2, by decide, gw_109⟩, List.forall_mem_cons.mpr ⟨⟨_, _, _, okd_2, by decide, gw_112⟩, List.forall_mem_cons.mpr ⟨⟨_, _, _, okd_2, by decide, gw_115⟩, List.forall_mem_cons.mpr ⟨⟨_, _, _, okd_2, by decide, gw_118⟩, List.forall_mem_cons.mpr ⟨⟨_, _, _, okd_2, by decide, gw_121⟩, List.forall_mem_cons.mpr ⟨⟨_, _, _, okd_1, by decide, gw_136⟩, List.forall_mem_cons.mpr ⟨⟨_, _, _, okd_1, by decide, gw_138⟩, List.forall_mem_cons.mpr ⟨⟨_, _, _, okd_1, by decide, gw_141⟩, List.forall_mem_cons.mpr ⟨⟨_, _, _, okd_1, by decide, gw_143⟩, List.forall_mem_cons.mpr ⟨⟨_, _, _, okd_1, by decide, gw_146⟩, List.forall_mem_cons.mpr ⟨⟨_, _, _, okd_1, by decide, gw_148⟩, List.forall_mem_cons.mpr ⟨⟨_, _, _, okd_1, by decide, gw_150⟩, List.forall_mem_cons.mpr ⟨⟨_, _, _, okd_1, by decide, gw_152⟩, List.forall_mem_cons.mpr ⟨⟨_, _, _, okd_1, by decide, gw_155⟩, List.forall_mem_cons.mpr ⟨⟨_, _, _, okd_1, by decide, gw_158⟩, List.forall_mem_cons.mpr ⟨⟨_, _, _, okd_1, by decide, gw_161⟩, List.forall_mem_cons.mpr ⟨⟨_, _, _, okd_3, by decide, gw_197⟩, List.forall_mem_cons.mpr ⟨⟨_, _, _, okd_3, by decide, gw_199⟩, List.forall_mem_cons.mpr ⟨⟨_, _, _, okd_4, by decide, gw_228⟩, List.forall_mem_cons.mpr ⟨⟨_, _, _, okd_4, by decide, gw_230⟩, List.forall_mem_cons.mpr ⟨⟨_, _, _, okd_4, by decide, gw_232⟩, List.forall_mem_cons.mpr ⟨⟨_, _, _, okd_0, by decide, gw_241⟩, List.forall_mem_cons.mpr ⟨⟨_, _, _, okd_0, by decide, gw_242⟩, List.forall_mem_cons.mpr ⟨⟨_, _, _, okd_0, by decide, gw_243⟩, List.forall_mem_cons.mpr ⟨⟨_, _, _, okd_0, by decide, gw_244⟩, List.forall_mem_cons.mpr ⟨⟨_, _, _, okd_0, by decide, gw_245⟩, List.forall_mem_cons.mpr ⟨⟨_, _, _, okd_0, by decide, gw_246⟩, List.forall_mem_cons.mpr ⟨⟨_, _, _, okd_0, by decide, gw_247⟩, List.forall_mem_cons.mpr ⟨⟨_, _, _, okd_0, by decide, gw_248⟩, List.forall_mem_cons.mpr ⟨⟨_, _, _, okd_0, by decide, gw_249⟩, List.forall_mem_cons.mpr ⟨⟨_, _, _, okd_0, by decide, gw_250⟩, List.forall_mem_cons.mpr ⟨⟨_, _, _, okd_0, by decide, gw_251⟩, fun _ h => absurd h List.not_mem_nil⟩⟩⟩⟩⟩⟩⟩⟩⟩⟩⟩⟩⟩⟩⟩⟩⟩⟩⟩⟩⟩⟩⟩⟩⟩⟩⟩⟩⟩⟩⟩⟩, List.forall_mem_cons.mpr ⟨gw_297, List.forall_mem_cons.mpr ⟨gw_359, List.forall_mem_cons.mpr ⟨gw_419, List.forall_mem_cons.mpr ⟨gw_459, List.forall_mem_cons.mpr ⟨gw_513, List.forall_mem_cons.mpr ⟨gw_539, List.forall_mem_cons.mpr ⟨gw_756, fun _ h => absurd h List.not_mem_nil⟩⟩⟩⟩⟩⟩⟩, List.forall_mem_cons.mpr ⟨gw_560, List.forall_mem_cons.mpr ⟨gw_585, List.forall_mem_cons.mpr ⟨gw_773, fun _ h => absurd h List.not_mem_nil⟩⟩⟩, fun _ h => absurd h List.not_mem_nil, List.forall_mem_cons.mpr ⟨Or.inl ⟨gw_417, rfl⟩, fun _ h => absurd h List.not_mem_nil⟩, fun _ h => absurd h List.not_mem_nil⟩
def K_X5 : LKS := ([(9, 5, 0), (13, 5, 1), (16, 5, 2), (19, 5, 3), (323, 5, 4), (22, 5, 5), (25, 5, 6), (28, 5, 7), (31, 5, 8), (35, 5, 9), (38, 5, 10), (189, 5, 11), (193, 5, 12), (199, 5, 13), (245, 5, 14), (41, 5, 15), (44, 5, 16), (47, 5, 17), (50, 5, 18)], [(53, (-1000000001)), (54, (1103515245))], [(183, (12)), (233, (99999)), (235, (10)), (237, (48)), (321, (9))], [(248, vX 50), (250, vX 52), (252, vX 54), (254, vX 56), (256, vX 58), (258, vX 60), (263, vX 78), (268, vX 80), (283, vX 62), (288, vX 64), (290, vX 66), (295, vX 68), (300, vX 70), (302, vX 72), (304, vX 74), (306, vX 76)], [], [])
theorem K_X5_ok : lkok RX5 K_X5 := ⟨List.forall_mem_cons.mpr ⟨⟨_, _, _, okd_5, by decide, gw_814⟩, List.forall_mem_cons.mpr ⟨⟨_, _, _, okd_5, by decide, gw_815⟩, List.forall_mem_cons.mpr ⟨⟨_, _, _, okd_5, by decide, gw_816⟩, List.forall_mem_cons.mpr ⟨⟨_, _, _, okd_5, by decide, gw_817⟩, List.forall_mem_cons.mpr ⟨⟨_, _, _, okd_5, by decide, gw_818⟩, List.forall_mem_cons.mpr ⟨⟨_, _, _, okd_5, by decide, gw_819⟩, List.forall_mem_cons.mpr ⟨⟨_, _, _, okd_5, by decide, gw_820⟩, List.forall_mem_cons.mpr ⟨⟨_, _, _, okd_5, by decide, gw_821⟩, List.forall_mem_cons.mpr ⟨⟨_, _, _, okd_5, by decide, gw_822⟩, List.forall_mem_cons.mpr ⟨⟨_, _, _, okd_5, by decide, gw_823⟩, List.forall_mem_cons.mpr ⟨⟨_, _, _, okd_5, by decide, gw_824⟩, List.forall_mem_cons.mpr ⟨⟨_, _, _, okd_5, by decide, gw_825⟩, List.forall_mem_cons.mpr ⟨⟨_, _, _, okd_5, by decide, gw_826⟩, List.forall_mem_cons.mpr ⟨⟨_, _, _, okd_5, by decide, gw_827⟩, List.forall_mem_cons.mpr ⟨⟨_, _, _, okd_5, by decide, gw_828⟩, List.forall_mem_cons.mpr ⟨⟨_, _, _, okd_5, by decide, gw_829⟩, List.forall_mem_cons.mpr ⟨⟨_, _, _, okd_5, by decide, gw_830⟩, List.forall_mem_cons.mpr ⟨⟨_, _, _, okd_5, by decide, gw_831⟩, List.forall_mem_cons.mpr ⟨⟨_, _, _, okd_5, by decide, gw_832⟩, fun _ h => absurd h List.not_mem_nil⟩⟩⟩⟩⟩⟩⟩⟩⟩⟩⟩⟩⟩⟩⟩⟩⟩⟩⟩, List.forall_mem_cons.mpr ⟨gw_899, List.forall_mem_cons.mpr ⟨gw_1021, fun _ h => absurd h List.not_mem_nil⟩⟩, List.forall_mem_cons.mpr ⟨gw_1140, List.forall_mem_cons.mpr ⟨gw_1215, List.forall_mem_cons.mpr ⟨gw_1216, List.forall_mem_cons.mpr ⟨gw_1217, List.forall_mem_cons.mpr ⟨gw_1274, fun _ h => absurd h List.not_mem_nil⟩⟩⟩⟩⟩, List.forall_mem_cons.mpr ⟨⟨("SleepWardModel", 248, "walker", 50), List.mem_of_getElem? (i := 16) rfl, rfl, rfl, rfl, by decide⟩, List.forall_mem_cons.mpr ⟨⟨("SleepWardModel", 250, "sloper", 52), List.mem_of_getElem? (i := 17) rfl, rfl, rfl, rfl, by decide⟩, List.forall_mem_cons.mpr ⟨⟨("SleepWardModel", 252, "lamper", 54), List.mem_of_getElem? (i := 18) rfl, rfl, rfl, rfl, by decide⟩, List.forall_mem_cons.mpr ⟨⟨("SleepWardModel", 254, "homer", 56), List.mem_of_getElem? (i := 19) rfl, rfl, rfl, rfl, by decide⟩, List.forall_mem_cons.mpr ⟨⟨("SleepWardModel", 256, "wanderer", 58), List.mem_of_getElem? (i := 20) rfl, rfl, rfl, rfl, by decide⟩, List.forall_mem_cons.mpr ⟨⟨("SleepWardModel", 258, "mooner", 60), List.mem_of_getElem? (i := 21) rfl, rfl, rfl, rfl, by decide⟩, List.forall_mem_cons.mpr ⟨⟨("SleepWardModel", 263, "at", 78), List.mem_of_getElem? (i := 30) rfl, rfl, rfl, rfl, by decide⟩, List.forall_mem_cons.mpr ⟨⟨("SleepWardModel", 268, "way", 80), List.mem_of_getElem? (i := 31) rfl, rfl, rfl, rfl, by decide⟩, List.forall_mem_cons.mpr ⟨⟨("SleepWardModel", 283, "shut", 62), List.mem_of_getElem? (i := 22) rfl, rfl, rfl, rfl, by decide⟩, List.forall_mem_cons.mpr ⟨⟨("SleepWardModel", 288, "open", 64), List.mem_of_getElem? (i := 23) rfl, rfl, rfl, rfl, by decide⟩, List.forall_mem_cons.mpr ⟨⟨("SleepWardModel", 290, "height", 66), List.mem_of_getElem? (i := 24) rfl, rfl, rfl, rfl, by decide⟩, List.forall_mem_cons.mpr ⟨⟨("SleepWardModel", 295, "lamp", 68), List.mem_of_getElem? (i := 25) rfl, rfl, rfl, rfl, by decide⟩, List.forall_mem_cons.mpr ⟨⟨("SleepWardModel", 300, "river", 70), List.mem_of_getElem? (i := 26) rfl, rfl, rfl, rfl, by decide⟩, List.forall_mem_cons.mpr ⟨⟨("SleepWardModel", 302, "dry", 72), List.mem_of_getElem? (i := 27) rfl, rfl, rfl, rfl, by decide⟩, List.forall_mem_cons.mpr ⟨⟨("SleepWardModel", 304, "moon", 74), List.mem_of_getElem? (i := 28) rfl, rfl, rfl, rfl, by decide⟩, List.forall_mem_cons.mpr ⟨⟨("SleepWardModel", 306, "rounds", 76), List.mem_of_getElem? (i := 29) rfl, rfl, rfl, rfl, by decide⟩, fun _ h => absurd h List.not_mem_nil⟩⟩⟩⟩⟩⟩⟩⟩⟩⟩⟩⟩⟩⟩⟩⟩, fun _ h => absurd h List.not_mem_nil, fun _ h => absurd h List.not_mem_nil⟩
def K_L : LKS := ([], [], [(156, (4294967295))], [], [], [])
theorem K_L_ok : lkok RL K_L := ⟨fun _ h => absurd h List.not_mem_nil, fun _ h => absurd h List.not_mem_nil, List.forall_mem_cons.mpr ⟨gw_1307, fun _ h => absurd h List.not_mem_nil⟩, fun _ h => absurd h List.not_mem_nil, fun _ h => absurd h List.not_mem_nil, fun _ h => absurd h List.not_mem_nil⟩
def K_J0 : LKS := ([], [], [], [], [(38, vI 1), (1053, vX 0)], [(9, 0), (15, 1)])
theorem K_J0_ok : lkok RJ0 K_J0 := ⟨fun _ h => absurd h List.not_mem_nil, fun _ h => absurd h List.not_mem_nil, fun _ h => absurd h List.not_mem_nil, fun _ h => absurd h List.not_mem_nil, List.forall_mem_cons.mpr ⟨Or.inr (Or.inl ⟨gw_643, rfl⟩), List.forall_mem_cons.mpr ⟨Or.inr (Or.inr ⟨gw_659, rfl⟩), fun _ h => absurd h List.not_mem_nil⟩⟩, List.forall_mem_cons.mpr ⟨Or.inl ⟨rfl, gw_1308⟩, List.forall_mem_cons.mpr ⟨Or.inr ⟨rfl, gw_1309⟩, fun _ h => absurd h List.not_mem_nil⟩⟩⟩
def K_J1 : LKS := ([], [], [], [], [], [])
theorem K_J1_ok : lkok RJ1 K_J1 := ⟨fun _ h => absurd h List.not_mem_nil, fun _ h => absurd h List.not_mem_nil, fun _ h => absurd h List.not_mem_nil, fun _ h => absurd h List.not_mem_nil, fun _ h => absurd h List.not_mem_nil, fun _ h => absurd h List.not_mem_nil⟩
def K_J2 : LKS := ([], [], [], [], [], [])
theorem K_J2_ok : lkok RJ2 K_J2 := ⟨fun _ h => absurd h List.not_mem_nil, fun _ h => absurd h List.not_mem_nil, fun _ h => absurd h List.not_mem_nil, fun _ h => absurd h List.not_mem_nil, fun _ h => absurd h List.not_mem_nil, fun _ h => absurd h List.not_mem_nil⟩
def K_J3 : LKS := ([], [], [], [], [], [])
theorem K_J3_ok : lkok RJ3 K_J3 := ⟨fun _ h => absurd h List.not_mem_nil, fun _ h => absurd h List.not_mem_nil, fun _ h => absurd h List.not_mem_nil, fun _ h => absurd h List.not_mem_nil, fun _ h => absurd h List.not_mem_nil, fun _ h => absurd h List.not_mem_nil⟩
def K_J6 : LKS := ([], [(265, (1431655765)), (266, (858993459)), (267, (252645135))], [], [], [], [])
theorem K_J6_ok : lkok RJ6 K_J6 := ⟨fun _ h => absurd h List.not_mem_nil, List.forall_mem_cons.mpr ⟨gw_447, List.forall_mem_cons.mpr ⟨gw_448, List.forall_mem_cons.mpr ⟨gw_449, fun _ h => absurd h List.not_mem_nil⟩⟩⟩, fun _ h => absurd h List.not_mem_nil, fun _ h => absurd h List.not_mem_nil, fun _ h => absurd h List.not_mem_nil, fun _ h => absurd h List.not_mem_nil⟩
def K_J7 : LKS := ([], [], [], [], [], [])
theorem K_J7_ok : lkok RJ7 K_J7 := ⟨fun _ h => absurd h List.not_mem_nil, fun _ h => absurd h List.not_mem_nil, fun _ h => absurd h List.not_mem_nil, fun _ h => absurd h List.not_mem_nil, fun _ h => absurd h List.not_mem_nil, fun _ h => absurd h List.not_mem_nil⟩
def K_J13 : LKS := ([], [], [(314, (6148914691236517205)), (316, (3689348814741910323)), (318, (1085102592571150095))], [], [], [])
theorem K_J13_ok : lkok RJ13 K_J13 := ⟨fun _ h => absurd h List.not_mem_nil, fun _ h => absurd h List.not_mem_nil, List.forall_mem_cons.mpr ⟨gw_801, List.forall_mem_cons.mpr ⟨gw_802, List.forall_mem_cons.mpr ⟨gw_803, fun _ h => absurd h List.not_mem_nil⟩⟩⟩, fun _ h => absurd h List.not_mem_nil, fun _ h => absurd h List.not_mem_nil, fun _ h => absurd h List.not_mem_nil⟩
def M_X0_isMissing : MR := (yX0_isMissing, cX0_isMissing, 1, (some .boolean), 0, 0)
def M_J7_fill_d0a16 : MR := (yJ7_fill_d0a16, cJ7_fill_d0a16, 5, none, 0, 0)
def M_X0_clear : MR := (yX0_clear, cX0_clear, 3, none, 1, 24)
def M_X0_putNumber : MR := (yX0_putNumber, cX0_putNumber, 4, none, 0, 0)
def M_X0_hasRun : MR := (yX0_hasRun, cX0_hasRun, 3, (some .boolean), 0, 0)
def M_X1_addByte : MR := (yX1_addByte, cX1_addByte, 2, none, 0, 0)
def M_X1_isLetter : MR := (yX1_isLetter, cX1_isLetter, 1, (some .boolean), 0, 0)
def M_X1_isDigit : MR := (yX1_isDigit, cX1_isDigit, 1, (some .boolean), 0, 0)
def M_X1_nextToken : MR := (yX1_nextToken, cX1_nextToken, 1, none, 1, 21)
def M_J0_coder_7d493 : MR := (yJ0_coder_7d493, cJ0_coder_7d493, 1, (some .byte), 0, 0)
def M_J0_length_8abf5 : MR := (yJ0_length_8abf5, cJ0_length_8abf5, 1, (some .int), 1, 20)
def M_J0_isLatin1_aae02 : MR := (yJ0_isLatin1_aae02, cJ0_isLatin1_aae02, 1, (some .boolean), 0, 0)
def M_J3_checkIndex_8e157 : MR := (yJ3_checkIndex_8e157, cJ3_checkIndex_8e157, 3, (some .int), 0, 0)
def M_J0_checkIndex_df160 : MR := (yJ0_checkIndex_df160, cJ0_checkIndex_df160, 2, none, 1, 22)
def M_J1_charAt_3b067 : MR := (yJ1_charAt_3b067, cJ1_charAt_3b067, 2, (some .char), 2, 43)
def M_J2_length_9d52b : MR := (yJ2_length_9d52b, cJ2_length_9d52b, 1, (some .int), 0, 0)
def M_J2_checkIndex_2214a : MR := (yJ2_checkIndex_2214a, cJ2_checkIndex_2214a, 2, none, 2, 43)
def M_J2_getChar_3b067 : MR := (yJ2_getChar_3b067, cJ2_getChar_3b067, 2, (some .char), 1, 20)
def M_J2_charAt_3b067 : MR := (yJ2_charAt_3b067, cJ2_charAt_3b067, 2, (some .char), 3, 64)
def M_J0_charAt_5068e : MR := (yJ0_charAt_5068e, cJ0_charAt_5068e, 2, (some .char), 4, 85)
def M_X1_isWord : MR := (yX1_isWord, cX1_isWord, 3, (some .boolean), 5, 106)
def M_X1_takesWord : MR := (yX1_takesWord, cX1_takesWord, 2, (some .boolean), 6, 128)
def M_X1_takeNumber : MR := (yX1_takeNumber, cX1_takeNumber, 3, (some .int), 2, 41)
def M_X4_isWithin : MR := (yX4_isWithin, cX4_isWithin, 3, (some .boolean), 0, 0)
def M_X4_isSquare : MR := (yX4_isSquare, cX4_isSquare, 1, (some .boolean), 1, 22)
def M_X3_squareBeside : MR := (yX3_squareBeside, cX3_squareBeside, 2, (some .int), 0, 0)
def M_X3_doorBetween : MR := (yX3_doorBetween, cX3_doorBetween, 4, (some .int), 2, 42)
def M_X3_isShut : MR := (yX3_isShut, cX3_isShut, 2, (some .boolean), 0, 0)
def M_X3_putDoor : MR := (yX3_putDoor, cX3_putDoor, 4, (some .boolean), 1, 21)
def M_X1_readDoor : MR := (yX1_readDoor, cX1_readDoor, 5, none, 3, 65)
def M_X1_readHeight : MR := (yX1_readHeight, cX1_readHeight, 4, none, 3, 63)
def M_X3_hasLamp : MR := (yX3_hasLamp, cX3_hasLamp, 2, (some .boolean), 0, 0)
def M_X3_putLamp : MR := (yX3_putLamp, cX3_putLamp, 4, (some .boolean), 1, 21)
def M_X3_isRiver : MR := (yX3_isRiver, cX3_isRiver, 2, (some .boolean), 0, 0)
def M_X3_putRiver : MR := (yX3_putRiver, cX3_putRiver, 4, (some .boolean), 1, 21)
def M_X1_readRiver : MR := (yX1_readRiver, cX1_readRiver, 4, none, 3, 63)
def M_X3_emptyRounds : MR := (yX3_emptyRounds, cX3_emptyRounds, 1, none, 0, 0)
def M_X3_addRound : MR := (yX3_addRound, cX3_addRound, 2, none, 0, 0)
def M_X1_readRounds : MR := (yX1_readRounds, cX1_readRounds, 4, none, 3, 63)
def M_X1_nameOf : MR := (yX1_nameOf, cX1_nameOf, 1, (some (.object "java/lang/String")), 0, 0)
def M_X1_kindOfWord : MR := (yX1_kindOfWord, cX1_kindOfWord, 2, (some .int), 6, 128)
def M_X3_addWalker : MR := (yX3_addWalker, cX3_addWalker, 5, none, 0, 0)
def M_X1_readWalker : MR := (yX1_readWalker, cX1_readWalker, 5, none, 7, 149)
def M_X1_readItem : MR := (yX1_readItem, cX1_readItem, 3, none, 8, 173)
def M_X1_readItems : MR := (yX1_readItems, cX1_readItems, 3, (some .int), 9, 195)
def M_X2_takeFrom : MR := (yX2_takeFrom, cX2_takeFrom, 2, none, 0, 0)
def M_J7_fill_53178 : MR := (yJ7_fill_53178, cJ7_fill_53178, 4, none, 0, 0)
def M_X3_takeFrom : MR := (yX3_takeFrom, cX3_takeFrom, 3, none, 1, 26)
def M_X3_walkersAt : MR := (yX3_walkersAt, cX3_walkersAt, 5, (some .int), 0, 0)
def M_X3_awakeCount : MR := (yX3_awakeCount, cX3_awakeCount, 3, (some .int), 0, 0)
def M_X3_riverCount : MR := (yX3_riverCount, cX3_riverCount, 3, (some .int), 1, 21)
def M_X3_homeCount : MR := (yX3_homeCount, cX3_homeCount, 3, (some .int), 0, 0)
def M_X3_waysFrom : MR := (yX3_waysFrom, cX3_waysFrom, 3, (some .int), 1, 21)
def M_X3_plainStep : MR := (yX3_plainStep, cX3_plainStep, 4, (some .int), 0, 0)
def M_X3_slopeStep : MR := (yX3_slopeStep, cX3_slopeStep, 7, (some .int), 1, 23)
def M_X3_lampStep : MR := (yX3_lampStep, cX3_lampStep, 6, (some .int), 1, 23)
def M_J6_bitCount_0f7a4 : MR := (yJ6_bitCount_0f7a4, cJ6_bitCount_0f7a4, 1, (some .int), 0, 0)
def M_X3_drawnStep : MR := (yX3_drawnStep, cX3_drawnStep, 5, (some .int), 1, 20)
def M_X3_stepOf : MR := (yX3_stepOf, cX3_stepOf, 3, (some .int), 2, 49)
def M_X3_goMinute : MR := (yX3_goMinute, cX3_goMinute, 6, (some .int), 3, 71)
def M_X3_goMinutes : MR := (yX3_goMinutes, cX3_goMinutes, 4, (some .int), 4, 96)
def M_X4_tell : MR := (yX4_tell, cX4_tell, 3, (some .int), 1, 22)
def M_X4_door : MR := (yX4_door, cX4_door, 5, (some .int), 3, 65)
def M_X4_isOpen : MR := (yX4_isOpen, cX4_isOpen, 4, (some .int), 3, 65)
def M_X4_height : MR := (yX4_height, cX4_height, 4, (some .int), 2, 44)
def M_X4_mark : MR := (yX4_mark, cX4_mark, 5, (some .int), 2, 44)
def M_X4_squareOf : MR := (yX4_squareOf, cX4_squareOf, 3, (some .int), 2, 44)
def M_X4_moon : MR := (yX4_moon, cX4_moon, 3, (some .int), 2, 44)
def M_X4_round : MR := (yX4_round, cX4_round, 2, (some .int), 2, 44)
def M_X4_rest : MR := (yX4_rest, cX4_rest, 2, (some .int), 1, 20)
def M_X4_isKind : MR := (yX4_isKind, cX4_isKind, 1, (some .boolean), 1, 22)
def M_X4_isWay : MR := (yX4_isWay, cX4_isWay, 1, (some .boolean), 1, 22)
def M_X4_walker : MR := (yX4_walker, cX4_walker, 4, (some .int), 2, 44)
def M_X4_isWalker : MR := (yX4_isWalker, cX4_isWalker, 2, (some .boolean), 1, 22)
def M_X4_of : MR := (yX4_of, cX4_of, 4, (some .int), 2, 44)
def M_X4_set : MR := (yX4_set, cX4_set, 6, (some .int), 2, 44)
def M_X4_wake : MR := (yX4_wake, cX4_wake, 5, (some .int), 2, 44)
def M_X4_turn : MR := (yX4_turn, cX4_turn, 5, (some .int), 2, 44)
def M_X4_isUnder : MR := (yX4_isUnder, cX4_isUnder, 4, (some .boolean), 2, 42)
def M_X4_as : MR := (yX4_as, cX4_as, 4, (some .int), 3, 65)
def M_X4_step : MR := (yX4_step, cX4_step, 4, (some .int), 3, 71)
def M_X4_isTooLate : MR := (yX4_isTooLate, cX4_isTooLate, 2, (some .boolean), 0, 0)
def M_X4_minutes : MR := (yX4_minutes, cX4_minutes, 2, (some .int), 5, 119)
def M_X4_bed : MR := (yX4_bed, cX4_bed, 4, (some .int), 1, 22)
def M_X4_seed : MR := (yX4_seed, cX4_seed, 3, (some .int), 0, 0)
def M_X4_now : MR := (yX4_now, cX4_now, 2, (some .int), 2, 44)
def M_X4_on : MR := (yX4_on, cX4_on, 3, (some .int), 5, 119)
def M_X4_river : MR := (yX4_river, cX4_river, 4, (some .int), 4, 96)
def M_X4_meet : MR := (yX4_meet, cX4_meet, 4, (some .int), 4, 96)
def M_X4_home : MR := (yX4_home, cX4_home, 4, (some .int), 4, 96)
def M_X4_isSafe : MR := (yX4_isSafe, cX4_isSafe, 5, (some .boolean), 4, 96)
def M_X4_safe : MR := (yX4_safe, cX4_safe, 2, (some .int), 5, 120)
def M_X4_findBanks : MR := (yX4_findBanks, cX4_findBanks, 6, (some .int), 1, 21)
def M_X4_doorsOf : MR := (yX4_doorsOf, cX4_doorsOf, 6, (some .long), 0, 0)
def M_X4_leastBars : MR := (yX4_leastBars, cX4_leastBars, 5, (some .int), 5, 120)
def M_X4_barred : MR := (yX4_barred, cX4_barred, 5, (some .int), 6, 144)
def M_X4_placesWithLamps : MR := (yX4_placesWithLamps, cX4_placesWithLamps, 6, (some .long), 5, 119)
def M_X4_countOthers : MR := (yX4_countOthers, cX4_countOthers, 6, (some .int), 0, 0)
def M_X4_lamp : MR := (yX4_lamp, cX4_lamp, 8, (some .int), 6, 144)
def M_X4_watch : MR := (yX4_watch, cX4_watch, 6, (some .int), 5, 119)
def M_X4_loop : MR := (yX4_loop, cX4_loop, 7, (some .int), 2, 44)
def M_X4_spreadFrom : MR := (yX4_spreadFrom, cX4_spreadFrom, 7, none, 2, 43)
def M_X4_spreadOdds : MR := (yX4_spreadOdds, cX4_spreadOdds, 5, none, 3, 69)
def M_X4_odds : MR := (yX4_odds, cX4_odds, 4, (some .long), 4, 93)
def M_X4_likeliest : MR := (yX4_likeliest, cX4_likeliest, 5, (some .int), 4, 93)
def M_X4_feed : MR := (yX4_feed, cX4_feed, 4, (some .int), 2, 44)
def M_X4_wipe : MR := (yX4_wipe, cX4_wipe, 2, (some .int), 0, 0)
def M_X4_ward : MR := (yX4_ward, cX4_ward, 2, (some .int), 10, 217)
def M_X4_isSheet : MR := (yX4_isSheet, cX4_isSheet, 1, (some .boolean), 1, 22)
def M_X4_sheet : MR := (yX4_sheet, cX4_sheet, 4, (some .int), 2, 46)
def M_X4_write : MR := (yX4_write, cX4_write, 8, (some .long), 2, 44)
def M_X4_copy : MR := (yX4_copy, cX4_copy, 8, (some .int), 2, 44)
def M_X4_lays : MR := (yX4_lays, cX4_lays, 7, (some .int), 2, 44)
def M_X4_track : MR := (yX4_track, cX4_track, 5, (some .int), 4, 96)
def M_X4_whose : MR := (yX4_whose, cX4_whose, 5, (some .int), 4, 96)
def M_X4_image : MR := (yX4_image, cX4_image, 1, (some .int), 2, 48)
def M_X4_undo : MR := (yX4_undo, cX4_undo, 1, (some .int), 2, 48)
def M_X4_tear : MR := (yX4_tear, cX4_tear, 2, (some .int), 0, 0)
def M_J13_bitCount_95d88 : MR := (yJ13_bitCount_95d88, cJ13_bitCount_95d88, 2, (some .int), 0, 0)
def M_X4_count : MR := (yX4_count, cX4_count, 2, (some .int), 2, 44)
def M_X4_status : MR := (yX4_status, cX4_status, 2, (some .int), 2, 44)
def M_X5_in : MR := (yX5_in, cX5_in, 3, (some .boolean), 0, 0)
def M_X5_no : MR := (yX5_no, cX5_no, 2, (some .int), 0, 0)
def M_X5_lay : MR := (yX5_lay, cX5_lay, 3, none, 0, 0)
def M_X5_draw : MR := (yX5_draw, cX5_draw, 1, (some .int), 0, 0)
def M_X5_isSquare : MR := (yX5_isSquare, cX5_isSquare, 1, (some .boolean), 1, 22)
def M_X5_isWay : MR := (yX5_isWay, cX5_isWay, 1, (some .boolean), 1, 22)
def M_X5_isWalker : MR := (yX5_isWalker, cX5_isWalker, 2, (some .boolean), 1, 22)
def M_X5_has : MR := (yX5_has, cX5_has, 3, (some .int), 0, 0)
def M_X5_gets : MR := (yX5_gets, cX5_gets, 5, (some .int), 1, 22)
def M_X5_puts : MR := (yX5_puts, cX5_puts, 4, (some .int), 0, 0)
def M_X5_beside : MR := (yX5_beside, cX5_beside, 2, (some .int), 0, 0)
def M_X5_doorAt : MR := (yX5_doorAt, cX5_doorAt, 2, (some .int), 0, 0)
def M_X5_wayTo : MR := (yX5_wayTo, cX5_wayTo, 3, (some .int), 1, 21)
def M_X5_may : MR := (yX5_may, cX5_may, 3, (some .boolean), 1, 21)
def M_X5_doorOf : MR := (yX5_doorOf, cX5_doorOf, 4, (some .int), 2, 43)
def M_X5_door : MR := (yX5_door, cX5_door, 6, (some .int), 3, 66)
def M_X5_isOpen : MR := (yX5_isOpen, cX5_isOpen, 4, (some .int), 3, 66)
def M_X5_height : MR := (yX5_height, cX5_height, 3, (some .int), 2, 42)
def M_X5_mark : MR := (yX5_mark, cX5_mark, 5, (some .int), 2, 42)
def M_X5_walkersAt : MR := (yX5_walkersAt, cX5_walkersAt, 4, (some .int), 1, 22)
def M_X5_squareOf : MR := (yX5_squareOf, cX5_squareOf, 3, (some .int), 2, 45)
def M_X5_moon : MR := (yX5_moon, cX5_moon, 2, (some .int), 1, 23)
def M_X5_round : MR := (yX5_round, cX5_round, 2, (some .int), 2, 42)
def M_X5_rest : MR := (yX5_rest, cX5_rest, 1, (some .int), 1, 23)
def M_X5_isKind : MR := (yX5_isKind, cX5_isKind, 1, (some .boolean), 1, 22)
def M_X5_adds : MR := (yX5_adds, cX5_adds, 5, none, 2, 46)
def M_X5_walker : MR := (yX5_walker, cX5_walker, 4, (some .int), 3, 70)
def M_X5_waysFrom : MR := (yX5_waysFrom, cX5_waysFrom, 4, (some .int), 2, 43)
def M_X5_of : MR := (yX5_of, cX5_of, 3, (some .int), 3, 66)
def M_X5_set : MR := (yX5_set, cX5_set, 4, (some .int), 2, 46)
def M_X5_wake : MR := (yX5_wake, cX5_wake, 4, (some .int), 2, 46)
def M_X5_turn : MR := (yX5_turn, cX5_turn, 3, (some .int), 2, 46)
def M_X5_isUnder : MR := (yX5_isUnder, cX5_isUnder, 2, (some .boolean), 0, 0)
def M_X5_as : MR := (yX5_as, cX5_as, 3, (some .int), 2, 43)
def M_X5_turned : MR := (yX5_turned, cX5_turned, 6, (some .int), 2, 43)
def M_X5_lampStep : MR := (yX5_lampStep, cX5_lampStep, 4, (some .int), 3, 68)
def M_X5_slopeStep : MR := (yX5_slopeStep, cX5_slopeStep, 6, (some .int), 3, 68)
def M_X5_ones : MR := (yX5_ones, cX5_ones, 3, (some .int), 0, 0)
def M_X5_wanderStep : MR := (yX5_wanderStep, cX5_wanderStep, 5, (some .int), 3, 66)
def M_X5_stepOf : MR := (yX5_stepOf, cX5_stepOf, 4, (some .int), 4, 93)
def M_X5_step : MR := (yX5_step, cX5_step, 4, (some .int), 5, 116)
def M_X5_isIn : MR := (yX5_isIn, cX5_isIn, 2, (some .boolean), 1, 22)
def M_X5_goes : MR := (yX5_goes, cX5_goes, 2, (some .boolean), 2, 43)
def M_X5_minute : MR := (yX5_minute, cX5_minute, 3, none, 5, 116)
def M_X5_go : MR := (yX5_go, cX5_go, 3, none, 6, 138)
def M_X5_inRiver : MR := (yX5_inRiver, cX5_inRiver, 3, (some .int), 2, 43)
def M_X5_isLate : MR := (yX5_isLate, cX5_isLate, 2, (some .boolean), 0, 0)
def M_X5_minutes : MR := (yX5_minutes, cX5_minutes, 3, (some .int), 7, 160)
def M_X5_homeMany : MR := (yX5_homeMany, cX5_homeMany, 3, (some .int), 1, 22)
def M_X5_bed : MR := (yX5_bed, cX5_bed, 3, (some .int), 2, 46)
def M_X5_seed : MR := (yX5_seed, cX5_seed, 2, (some .int), 1, 23)
def M_X5_awake : MR := (yX5_awake, cX5_awake, 3, (some .int), 1, 22)
def M_X5_now : MR := (yX5_now, cX5_now, 2, (some .int), 3, 65)
def M_X5_on : MR := (yX5_on, cX5_on, 4, (some .int), 7, 160)
def M_X5_is : MR := (yX5_is, cX5_is, 4, (some .boolean), 2, 43)
def M_X5_soonest : MR := (yX5_soonest, cX5_soonest, 6, (some .int), 6, 138)
def M_X5_river : MR := (yX5_river, cX5_river, 2, (some .int), 7, 163)
def M_X5_meet : MR := (yX5_meet, cX5_meet, 3, (some .int), 7, 163)
def M_X5_home : MR := (yX5_home, cX5_home, 2, (some .int), 7, 163)
def M_X5_isSafe : MR := (yX5_isSafe, cX5_isSafe, 5, (some .boolean), 6, 138)
def M_X5_safe : MR := (yX5_safe, cX5_safe, 2, (some .int), 7, 162)
def M_X5_banks : MR := (yX5_banks, cX5_banks, 5, (some .int), 2, 43)
def M_X5_isSafeBy : MR := (yX5_isSafeBy, cX5_isSafeBy, 6, (some .boolean), 7, 162)
def M_X5_barred : MR := (yX5_barred, cX5_barred, 6, (some .int), 8, 187)
def M_X5_lamp : MR := (yX5_lamp, cX5_lamp, 7, (some .int), 7, 160)
def M_X5_watch : MR := (yX5_watch, cX5_watch, 5, (some .int), 7, 160)
def M_X5_loop : MR := (yX5_loop, cX5_loop, 6, (some .int), 3, 68)
def M_X5_spreads : MR := (yX5_spreads, cX5_spreads, 7, none, 3, 66)
def M_X5_odds : MR := (yX5_odds, cX5_odds, 4, (some .long), 4, 92)
def M_X5_likeliest : MR := (yX5_likeliest, cX5_likeliest, 5, (some .int), 4, 92)
def M_X5_feed : MR := (yX5_feed, cX5_feed, 4, (some .int), 1, 22)
def M_X5_wipe : MR := (yX5_wipe, cX5_wipe, 2, (some .int), 0, 0)
def M_X5_byteAt : MR := (yX5_byteAt, cX5_byteAt, 2, (some .int), 0, 0)
def M_X5_blanks : MR := (yX5_blanks, cX5_blanks, 1, none, 1, 21)
def M_X5_fails : MR := (yX5_fails, cX5_fails, 1, (some .boolean), 0, 0)
def M_X5_isLetter : MR := (yX5_isLetter, cX5_isLetter, 1, (some .boolean), 1, 22)
def M_X5_isDigit : MR := (yX5_isDigit, cX5_isDigit, 1, (some .boolean), 1, 22)
def M_X5_wordEnd : MR := (yX5_wordEnd, cX5_wordEnd, 2, (some .int), 2, 42)
def M_X5_isWord : MR := (yX5_isWord, cX5_isWord, 4, (some .boolean), 5, 106)
def M_X5_may_ : MR := (yX5_may_, cX5_may_, 3, (some .boolean), 6, 129)
def M_X5_must : MR := (yX5_must, cX5_must, 2, (some .boolean), 7, 151)
def M_X5_number : MR := (yX5_number, cX5_number, 6, (some .boolean), 2, 42)
def M_X5_isNumber : MR := (yX5_isNumber, cX5_isNumber, 1, (some .boolean), 2, 42)
def M_X5_kindName : MR := (yX5_kindName, cX5_kindName, 1, (some (.object "java/lang/String")), 0, 0)
def M_X5_doorTold : MR := (yX5_doorTold, cX5_doorTold, 5, (some .boolean), 3, 67)
def M_X5_heightTold : MR := (yX5_heightTold, cX5_heightTold, 2, (some .boolean), 3, 67)
def M_X5_markTold : MR := (yX5_markTold, cX5_markTold, 3, (some .boolean), 3, 67)
def M_X5_walkerTold : MR := (yX5_walkerTold, cX5_walkerTold, 4, (some .boolean), 8, 172)
def M_X5_roundsTold : MR := (yX5_roundsTold, cX5_roundsTold, 1, (some .boolean), 3, 67)
def M_X5_item : MR := (yX5_item, cX5_item, 2, (some .boolean), 9, 195)
def M_X5_ward : MR := (yX5_ward, cX5_ward, 3, (some .int), 10, 216)
def M_X5_isSheet : MR := (yX5_isSheet, cX5_isSheet, 1, (some .boolean), 1, 22)
def M_X5_sheet : MR := (yX5_sheet, cX5_sheet, 5, (some .int), 2, 42)
def M_X5_writes : MR := (yX5_writes, cX5_writes, 5, none, 0, 0)
def M_X5_write : MR := (yX5_write, cX5_write, 7, (some .long), 2, 42)
def M_X5_copy : MR := (yX5_copy, cX5_copy, 7, (some .int), 2, 42)
def M_X5_lays : MR := (yX5_lays, cX5_lays, 6, (some .int), 2, 42)
def M_X5_track : MR := (yX5_track, cX5_track, 4, (some .int), 6, 138)
def M_X5_whose : MR := (yX5_whose, cX5_whose, 5, (some .int), 6, 138)
def M_X5_image : MR := (yX5_image, cX5_image, 1, (some .int), 1, 22)
def M_X5_undo : MR := (yX5_undo, cX5_undo, 1, (some .int), 1, 22)
def M_X5_tear : MR := (yX5_tear, cX5_tear, 2, (some .int), 0, 0)
def M_X5_sumOf : MR := (yX5_sumOf, cX5_sumOf, 5, (some .int), 0, 0)
def M_X5_count : MR := (yX5_count, cX5_count, 2, (some .int), 1, 24)
def M_X5_status : MR := (yX5_status, cX5_status, 4, (some .int), 1, 22)
end
section
/-! kinds of specification -/
def spP {X : Type} (dec : List AV → Option X) (pre : X → HP → Prop) (f : X → HP → AV) : SP := fun as hp K => match dec as with
  | some x => pre x hp ∧ K (some (f x hp)) hp
  | none => False
def spH {X : Type} (dec : List AV → Option X) (pre : X → HP → Prop) (f : X → HP → Option AV) (g : X → HP → HP) : SP := fun as hp K => match dec as with
  | some x => pre x hp ∧ K (f x hp) (g x hp)
  | none => False
def spF {X : Type} (dec : List AV → Option X) (pre : X → HP → Prop) (post : X → HP → Option AV → HP → Prop) : SP := fun as hp K => match dec as with
  | some x => pre x hp ∧ ∀ v hq, post x hp v hq → K v hq
  | none => False
theorem spP_mono {X : Type} {dec : List AV → Option X} {pre : X → HP → Prop} {f : X → HP → AV} : Mono (spP dec pre f) := by
  intro as hp K K2 hk h
  unfold spP at h ⊢
  split at h
  · exact ⟨h.1, hk _ _ h.2⟩
  · exact h.elim
theorem spH_mono {X : Type} {dec : List AV → Option X} {pre : X → HP → Prop} {f : X → HP → Option AV} {g : X → HP → HP} : Mono (spH dec pre f g) := by
  intro as hp K K2 hk h
  unfold spH at h ⊢
  split at h
  · exact ⟨h.1, hk _ _ h.2⟩
  · exact h.elim
theorem spF_mono {X : Type} {dec : List AV → Option X} {pre : X → HP → Prop} {post : X → HP → Option AV → HP → Prop} : Mono (spF dec pre post) := by
  intro as hp K K2 hk h
  unfold spF at h ⊢
  split at h
  · exact ⟨h.1, fun v hq hv => hk _ _ (h.2 v hq hv)⟩
  · exact h.elim
theorem spP_e {X : Type} {dec : List AV → Option X} {pre : X → HP → Prop} {f : X → HP → AV} {as : List AV} {hp : HP} {K : QP} (h : spP dec pre f as hp K) : ∃ x, dec as = some x ∧ pre x hp ∧ K (some (f x hp)) hp := by
  unfold spP at h
  split at h
  · next x hx => exact ⟨x, hx, h⟩
  · exact h.elim
theorem spH_e {X : Type} {dec : List AV → Option X} {pre : X → HP → Prop} {f : X → HP → Option AV} {g : X → HP → HP} {as : List AV} {hp : HP} {K : QP} (h : spH dec pre f g as hp K) : ∃ x, dec as = some x ∧ pre x hp ∧ K (f x hp) (g x hp) := by
  unfold spH at h
  split at h
  · next x hx => exact ⟨x, hx, h⟩
  · exact h.elim
theorem spF_e {X : Type} {dec : List AV → Option X} {pre : X → HP → Prop} {post : X → HP → Option AV → HP → Prop} {as : List AV} {hp : HP} {K : QP} (h : spF dec pre post as hp K) : ∃ x, dec as = some x ∧ pre x hp ∧ ∀ v hq, post x hp v hq → K v hq := by
  unfold spF at h
  split at h
  · next x hx => exact ⟨x, hx, h⟩
  · exact h.elim
def d_S_I (as : List AV) : Option (Int32) := match as with
  | [.inl a0] => some (a0)
  | _ => none
theorem d_S_I_e {as : List AV} {x : Int32} (h : d_S_I as = some x) : as = [vI x] := by
  unfold d_S_I at h
  split at h
  · cases h; rfl
  · cases h
def d_S_II (as : List AV) : Option (Int32 × Int32) := match as with
  | [.inl a0, .inl a1] => some (a0, a1)
  | _ => none
theorem d_S_II_e {as : List AV} {x : Int32 × Int32} (h : d_S_II as = some x) : as = [vI x.1, vI x.2] := by
  unfold d_S_II at h
  split at h
  · cases h; rfl
  · cases h
def d_S_III (as : List AV) : Option (Int32 × Int32 × Int32) := match as with
  | [.inl a0, .inl a1, .inl a2] => some (a0, a1, a2)
  | _ => none
theorem d_S_III_e {as : List AV} {x : Int32 × Int32 × Int32} (h : d_S_III as = some x) : as = [vI x.1, vI x.2.1, vI x.2.2] := by
  unfold d_S_III at h
  split at h
  · cases h; rfl
  · cases h
def d_S_AA (as : List AV) : Option (Nat × Nat) := match as with
  | [.inr (.inr (.inl q0)), .inr (.inr (.inl q1))] => (match Nat.beq q0.1 15 && Nat.beq q1.1 15 with
    | true => some (q0.2, q1.2)
    | false => none)
  | _ => none
theorem d_S_AA_e {as : List AV} {x : Nat × Nat} (h : d_S_AA as = some x) : as = [vR 15 x.1, vR 15 x.2] := by
  unfold d_S_AA at h
  split at h
  · split at h
    · next hb =>
      cases h
      simp only [Bool.and_eq_true, Bool.or_eq_true, Nat.beq_eq] at hb
      simp_all [vR, vI, vL, vX, Prod.ext_iff]
    · cases h
  · cases h
def d_S_JJ (as : List AV) : Option (Int64 × Int64) := match as with
  | [.inr (.inl a0), .inr (.inl a1)] => some (a0, a1)
  | _ => none
theorem d_S_JJ_e {as : List AV} {x : Int64 × Int64} (h : d_S_JJ as = some x) : as = [vL x.1, vL x.2] := by
  unfold d_S_JJ at h
  split at h
  · cases h; rfl
  · cases h
def d_S_J (as : List AV) : Option (Int64) := match as with
  | [.inr (.inl a0)] => some (a0)
  | _ => none
theorem d_S_J_e {as : List AV} {x : Int64} (h : d_S_J as = some x) : as = [vL x] := by
  unfold d_S_J at h
  split at h
  · cases h; rfl
  · cases h
def d_S_LJ (as : List AV) : Option ((Nat × Nat) × Int64) := match as with
  | [.inr (.inr (.inl q0)), .inr (.inl a1)] => (match (Nat.beq q0.1 11 || Nat.beq q0.1 13) with
    | true => some (q0, a1)
    | false => none)
  | _ => none
theorem d_S_LJ_e {as : List AV} {x : (Nat × Nat) × Int64} (h : d_S_LJ as = some x) : as = [vR x.1.1 x.1.2, vL x.2] := by
  unfold d_S_LJ at h
  split at h
  · split at h
    · next hb =>
      cases h
      simp only [Bool.and_eq_true, Bool.or_eq_true, Nat.beq_eq] at hb
      simp_all [vR, vI, vL, vX, Prod.ext_iff]
    · cases h
  · cases h
def d_S_BI (as : List AV) : Option (Nat × Int32) := match as with
  | [.inr (.inr (.inr (m0 + 11))), .inl a1] => some (m0, a1)
  | _ => none
theorem d_S_BI_e {as : List AV} {x : Nat × Int32} (h : d_S_BI as = some x) : as = [vX (x.1 + 11), vI x.2] := by
  unfold d_S_BI at h
  split at h
  · cases h; rfl
  · cases h
def d_S_IIF (as : List AV) : Option (Int32 × Int32) := match as with
  | [.inl a0, .inl a1, .inr (.inr (.inr 0))] => some (a0, a1)
  | _ => none
theorem d_S_IIF_e {as : List AV} {x : Int32 × Int32} (h : d_S_IIF as = some x) : as = [vI x.1, vI x.2, vX 0] := by
  unfold d_S_IIF at h
  split at h
  · cases h; rfl
  · cases h
def d_M (as : List AV) : Option (Unit) := match as with
  | [.inr (.inr (.inl q0))] => (match (Nat.beq q0.1 5 && Nat.beq q0.2 52) with
    | true => some ()
    | false => none)
  | _ => none
theorem d_M_e {as : List AV} {x : Unit} (h : d_M as = some x) : as = [vR 5 52] := by
  unfold d_M at h
  split at h
  · split at h
    · next hb =>
      cases h
      simp only [Bool.and_eq_true, Bool.or_eq_true, Nat.beq_eq] at hb
      simp_all [vR, vI, vL, vX, Prod.ext_iff]
    · cases h
  · cases h
def d_M_I (as : List AV) : Option (Int32) := match as with
  | [.inr (.inr (.inl q0)), .inl a1] => (match (Nat.beq q0.1 5 && Nat.beq q0.2 52) with
    | true => some (a1)
    | false => none)
  | _ => none
theorem d_M_I_e {as : List AV} {x : Int32} (h : d_M_I as = some x) : as = [vR 5 52, vI x] := by
  unfold d_M_I at h
  split at h
  · split at h
    · next hb =>
      cases h
      simp only [Bool.and_eq_true, Bool.or_eq_true, Nat.beq_eq] at hb
      simp_all [vR, vI, vL, vX, Prod.ext_iff]
    · cases h
  · cases h
def d_M_II (as : List AV) : Option (Int32 × Int32) := match as with
  | [.inr (.inr (.inl q0)), .inl a1, .inl a2] => (match (Nat.beq q0.1 5 && Nat.beq q0.2 52) with
    | true => some (a1, a2)
    | false => none)
  | _ => none
theorem d_M_II_e {as : List AV} {x : Int32 × Int32} (h : d_M_II as = some x) : as = [vR 5 52, vI x.1, vI x.2] := by
  unfold d_M_II at h
  split at h
  · split at h
    · next hb =>
      cases h
      simp only [Bool.and_eq_true, Bool.or_eq_true, Nat.beq_eq] at hb
      simp_all [vR, vI, vL, vX, Prod.ext_iff]
    · cases h
  · cases h
def d_M_III (as : List AV) : Option (Int32 × Int32 × Int32) := match as with
  | [.inr (.inr (.inl q0)), .inl a1, .inl a2, .inl a3] => (match (Nat.beq q0.1 5 && Nat.beq q0.2 52) with
    | true => some (a1, a2, a3)
    | false => none)
  | _ => none
theorem d_M_III_e {as : List AV} {x : Int32 × Int32 × Int32} (h : d_M_III as = some x) : as = [vR 5 52, vI x.1, vI x.2.1, vI x.2.2] := by
  unfold d_M_III at h
  split at h
  · split at h
    · next hb =>
      cases h
      simp only [Bool.and_eq_true, Bool.or_eq_true, Nat.beq_eq] at hb
      simp_all [vR, vI, vL, vX, Prod.ext_iff]
    · cases h
  · cases h
def d_M_IIJ (as : List AV) : Option (Int32 × Int32 × Int64) := match as with
  | [.inr (.inr (.inl q0)), .inl a1, .inl a2, .inr (.inl a3)] => (match (Nat.beq q0.1 5 && Nat.beq q0.2 52) with
    | true => some (a1, a2, a3)
    | false => none)
  | _ => none
theorem d_M_IIJ_e {as : List AV} {x : Int32 × Int32 × Int64} (h : d_M_IIJ as = some x) : as = [vR 5 52, vI x.1, vI x.2.1, vL x.2.2] := by
  unfold d_M_IIJ at h
  split at h
  · split at h
    · next hb =>
      cases h
      simp only [Bool.and_eq_true, Bool.or_eq_true, Nat.beq_eq] at hb
      simp_all [vR, vI, vL, vX, Prod.ext_iff]
    · cases h
  · cases h
def d_M_IIIII (as : List AV) : Option (Int32 × Int32 × Int32 × Int32 × Int32) := match as with
  | [.inr (.inr (.inl q0)), .inl a1, .inl a2, .inl a3, .inl a4, .inl a5] => (match (Nat.beq q0.1 5 && Nat.beq q0.2 52) with
    | true => some (a1, a2, a3, a4, a5)
    | false => none)
  | _ => none
theorem d_M_IIIII_e {as : List AV} {x : Int32 × Int32 × Int32 × Int32 × Int32} (h : d_M_IIIII as = some x) : as = [vR 5 52, vI x.1, vI x.2.1, vI x.2.2.1, vI x.2.2.2.1, vI x.2.2.2.2] := by
  unfold d_M_IIIII at h
  split at h
  · split at h
    · next hb =>
      cases h
      simp only [Bool.and_eq_true, Bool.or_eq_true, Nat.beq_eq] at hb
      simp_all [vR, vI, vL, vX, Prod.ext_iff]
    · cases h
  · cases h
def d_M_X (as : List AV) : Option (Nat) := match as with
  | [.inr (.inr (.inl q0)), .inr (.inr (.inr (m1 + 10)))] => (match (Nat.beq q0.1 5 && Nat.beq q0.2 52) with
    | true => some (m1)
    | false => none)
  | _ => none
theorem d_M_X_e {as : List AV} {x : Nat} (h : d_M_X as = some x) : as = [vR 5 52, vX (x + 10)] := by
  unfold d_M_X at h
  split at h
  · split at h
    · next hb =>
      cases h
      simp only [Bool.and_eq_true, Bool.or_eq_true, Nat.beq_eq] at hb
      simp_all [vR, vI, vL, vX, Prod.ext_iff]
    · cases h
  · cases h
def d_C (as : List AV) : Option (Unit) := match as with
  | [.inr (.inr (.inl q0))] => (match (Nat.beq q0.1 0 && Nat.beq q0.2 0) with
    | true => some ()
    | false => none)
  | _ => none
theorem d_C_e {as : List AV} {x : Unit} (h : d_C as = some x) : as = [vR 0 0] := by
  unfold d_C at h
  split at h
  · split at h
    · next hb =>
      cases h
      simp only [Bool.and_eq_true, Bool.or_eq_true, Nat.beq_eq] at hb
      simp_all [vR, vI, vL, vX, Prod.ext_iff]
    · cases h
  · cases h
def d_C_I (as : List AV) : Option (Int32) := match as with
  | [.inr (.inr (.inl q0)), .inl a1] => (match (Nat.beq q0.1 0 && Nat.beq q0.2 0) with
    | true => some (a1)
    | false => none)
  | _ => none
theorem d_C_I_e {as : List AV} {x : Int32} (h : d_C_I as = some x) : as = [vR 0 0, vI x] := by
  unfold d_C_I at h
  split at h
  · split at h
    · next hb =>
      cases h
      simp only [Bool.and_eq_true, Bool.or_eq_true, Nat.beq_eq] at hb
      simp_all [vR, vI, vL, vX, Prod.ext_iff]
    · cases h
  · cases h
def d_C_II (as : List AV) : Option (Int32 × Int32) := match as with
  | [.inr (.inr (.inl q0)), .inl a1, .inl a2] => (match (Nat.beq q0.1 0 && Nat.beq q0.2 0) with
    | true => some (a1, a2)
    | false => none)
  | _ => none
theorem d_C_II_e {as : List AV} {x : Int32 × Int32} (h : d_C_II as = some x) : as = [vR 0 0, vI x.1, vI x.2] := by
  unfold d_C_II at h
  split at h
  · split at h
    · next hb =>
      cases h
      simp only [Bool.and_eq_true, Bool.or_eq_true, Nat.beq_eq] at hb
      simp_all [vR, vI, vL, vX, Prod.ext_iff]
    · cases h
  · cases h
def d_C_III (as : List AV) : Option (Int32 × Int32 × Int32) := match as with
  | [.inr (.inr (.inl q0)), .inl a1, .inl a2, .inl a3] => (match (Nat.beq q0.1 0 && Nat.beq q0.2 0) with
    | true => some (a1, a2, a3)
    | false => none)
  | _ => none
theorem d_C_III_e {as : List AV} {x : Int32 × Int32 × Int32} (h : d_C_III as = some x) : as = [vR 0 0, vI x.1, vI x.2.1, vI x.2.2] := by
  unfold d_C_III at h
  split at h
  · split at h
    · next hb =>
      cases h
      simp only [Bool.and_eq_true, Bool.or_eq_true, Nat.beq_eq] at hb
      simp_all [vR, vI, vL, vX, Prod.ext_iff]
    · cases h
  · cases h
def d_C_IIJ (as : List AV) : Option (Int32 × Int32 × Int64) := match as with
  | [.inr (.inr (.inl q0)), .inl a1, .inl a2, .inr (.inl a3)] => (match (Nat.beq q0.1 0 && Nat.beq q0.2 0) with
    | true => some (a1, a2, a3)
    | false => none)
  | _ => none
theorem d_C_IIJ_e {as : List AV} {x : Int32 × Int32 × Int64} (h : d_C_IIJ as = some x) : as = [vR 0 0, vI x.1, vI x.2.1, vL x.2.2] := by
  unfold d_C_IIJ at h
  split at h
  · split at h
    · next hb =>
      cases h
      simp only [Bool.and_eq_true, Bool.or_eq_true, Nat.beq_eq] at hb
      simp_all [vR, vI, vL, vX, Prod.ext_iff]
    · cases h
  · cases h
def d_C_IIIII (as : List AV) : Option (Int32 × Int32 × Int32 × Int32 × Int32) := match as with
  | [.inr (.inr (.inl q0)), .inl a1, .inl a2, .inl a3, .inl a4, .inl a5] => (match (Nat.beq q0.1 0 && Nat.beq q0.2 0) with
    | true => some (a1, a2, a3, a4, a5)
    | false => none)
  | _ => none
theorem d_C_IIIII_e {as : List AV} {x : Int32 × Int32 × Int32 × Int32 × Int32} (h : d_C_IIIII as = some x) : as = [vR 0 0, vI x.1, vI x.2.1, vI x.2.2.1, vI x.2.2.2.1, vI x.2.2.2.2] := by
  unfold d_C_IIIII at h
  split at h
  · split at h
    · next hb =>
      cases h
      simp only [Bool.and_eq_true, Bool.or_eq_true, Nat.beq_eq] at hb
      simp_all [vR, vI, vL, vX, Prod.ext_iff]
    · cases h
  · cases h
def d_C_JI (as : List AV) : Option (Int64 × Int32) := match as with
  | [.inr (.inr (.inl q0)), .inr (.inl a1), .inl a2] => (match (Nat.beq q0.1 0 && Nat.beq q0.2 0) with
    | true => some (a1, a2)
    | false => none)
  | _ => none
theorem d_C_JI_e {as : List AV} {x : Int64 × Int32} (h : d_C_JI as = some x) : as = [vR 0 0, vL x.1, vI x.2] := by
  unfold d_C_JI at h
  split at h
  · split at h
    · next hb =>
      cases h
      simp only [Bool.and_eq_true, Bool.or_eq_true, Nat.beq_eq] at hb
      simp_all [vR, vI, vL, vX, Prod.ext_iff]
    · cases h
  · cases h
def d_W (as : List AV) : Option (Nat) := match as with
  | [.inr (.inr (.inl q0))] => (match Nat.beq q0.1 1 with
    | true => some (q0.2)
    | false => none)
  | _ => none
theorem d_W_e {as : List AV} {x : Nat} (h : d_W as = some x) : as = [vR 1 x] := by
  unfold d_W at h
  split at h
  · split at h
    · next hb =>
      cases h
      simp only [Bool.and_eq_true, Bool.or_eq_true, Nat.beq_eq] at hb
      simp_all [vR, vI, vL, vX, Prod.ext_iff]
    · cases h
  · cases h
def d_W_I (as : List AV) : Option (Nat × Int32) := match as with
  | [.inr (.inr (.inl q0)), .inl a1] => (match Nat.beq q0.1 1 with
    | true => some (q0.2, a1)
    | false => none)
  | _ => none
theorem d_W_I_e {as : List AV} {x : Nat × Int32} (h : d_W_I as = some x) : as = [vR 1 x.1, vI x.2] := by
  unfold d_W_I at h
  split at h
  · split at h
    · next hb =>
      cases h
      simp only [Bool.and_eq_true, Bool.or_eq_true, Nat.beq_eq] at hb
      simp_all [vR, vI, vL, vX, Prod.ext_iff]
    · cases h
  · cases h
def d_W_II (as : List AV) : Option (Nat × Int32 × Int32) := match as with
  | [.inr (.inr (.inl q0)), .inl a1, .inl a2] => (match Nat.beq q0.1 1 with
    | true => some (q0.2, a1, a2)
    | false => none)
  | _ => none
theorem d_W_II_e {as : List AV} {x : Nat × Int32 × Int32} (h : d_W_II as = some x) : as = [vR 1 x.1, vI x.2.1, vI x.2.2] := by
  unfold d_W_II at h
  split at h
  · split at h
    · next hb =>
      cases h
      simp only [Bool.and_eq_true, Bool.or_eq_true, Nat.beq_eq] at hb
      simp_all [vR, vI, vL, vX, Prod.ext_iff]
    · cases h
  · cases h
def d_W_III (as : List AV) : Option (Nat × Int32 × Int32 × Int32) := match as with
  | [.inr (.inr (.inl q0)), .inl a1, .inl a2, .inl a3] => (match Nat.beq q0.1 1 with
    | true => some (q0.2, a1, a2, a3)
    | false => none)
  | _ => none
theorem d_W_III_e {as : List AV} {x : Nat × Int32 × Int32 × Int32} (h : d_W_III as = some x) : as = [vR 1 x.1, vI x.2.1, vI x.2.2.1, vI x.2.2.2] := by
  unfold d_W_III at h
  split at h
  · split at h
    · next hb =>
      cases h
      simp only [Bool.and_eq_true, Bool.or_eq_true, Nat.beq_eq] at hb
      simp_all [vR, vI, vL, vX, Prod.ext_iff]
    · cases h
  · cases h
def d_W_J (as : List AV) : Option (Nat × Int64) := match as with
  | [.inr (.inr (.inl q0)), .inr (.inl a1)] => (match Nat.beq q0.1 1 with
    | true => some (q0.2, a1)
    | false => none)
  | _ => none
theorem d_W_J_e {as : List AV} {x : Nat × Int64} (h : d_W_J as = some x) : as = [vR 1 x.1, vL x.2] := by
  unfold d_W_J at h
  split at h
  · split at h
    · next hb =>
      cases h
      simp only [Bool.and_eq_true, Bool.or_eq_true, Nat.beq_eq] at hb
      simp_all [vR, vI, vL, vX, Prod.ext_iff]
    · cases h
  · cases h
def d_W_K (as : List AV) : Option (Nat × Nat) := match as with
  | [.inr (.inr (.inl q0)), .inr (.inr (.inl q1))] => (match Nat.beq q0.1 1 && Nat.beq q1.1 2 with
    | true => some (q0.2, q1.2)
    | false => none)
  | _ => none
theorem d_W_K_e {as : List AV} {x : Nat × Nat} (h : d_W_K as = some x) : as = [vR 1 x.1, vR 2 x.2] := by
  unfold d_W_K at h
  split at h
  · split at h
    · next hb =>
      cases h
      simp only [Bool.and_eq_true, Bool.or_eq_true, Nat.beq_eq] at hb
      simp_all [vR, vI, vL, vX, Prod.ext_iff]
    · cases h
  · cases h
def d_W_KI (as : List AV) : Option (Nat × Nat × Int32) := match as with
  | [.inr (.inr (.inl q0)), .inr (.inr (.inl q1)), .inl a2] => (match Nat.beq q0.1 1 && Nat.beq q1.1 2 with
    | true => some (q0.2, q1.2, a2)
    | false => none)
  | _ => none
theorem d_W_KI_e {as : List AV} {x : Nat × Nat × Int32} (h : d_W_KI as = some x) : as = [vR 1 x.1, vR 2 x.2.1, vI x.2.2] := by
  unfold d_W_KI at h
  split at h
  · split at h
    · next hb =>
      cases h
      simp only [Bool.and_eq_true, Bool.or_eq_true, Nat.beq_eq] at hb
      simp_all [vR, vI, vL, vX, Prod.ext_iff]
    · cases h
  · cases h
def d_W_W (as : List AV) : Option (Nat × Nat) := match as with
  | [.inr (.inr (.inl q0)), .inr (.inr (.inl q1))] => (match Nat.beq q0.1 1 && Nat.beq q1.1 1 with
    | true => some (q0.2, q1.2)
    | false => none)
  | _ => none
theorem d_W_W_e {as : List AV} {x : Nat × Nat} (h : d_W_W as = some x) : as = [vR 1 x.1, vR 1 x.2] := by
  unfold d_W_W at h
  split at h
  · split at h
    · next hb =>
      cases h
      simp only [Bool.and_eq_true, Bool.or_eq_true, Nat.beq_eq] at hb
      simp_all [vR, vI, vL, vX, Prod.ext_iff]
    · cases h
  · cases h
def d_T (as : List AV) : Option (Unit) := match as with
  | [.inr (.inr (.inl q0))] => (match (Nat.beq q0.1 3 && Nat.beq q0.2 37) with
    | true => some ()
    | false => none)
  | _ => none
theorem d_T_e {as : List AV} {x : Unit} (h : d_T as = some x) : as = [vR 3 37] := by
  unfold d_T at h
  split at h
  · split at h
    · next hb =>
      cases h
      simp only [Bool.and_eq_true, Bool.or_eq_true, Nat.beq_eq] at hb
      simp_all [vR, vI, vL, vX, Prod.ext_iff]
    · cases h
  · cases h
def d_T_I (as : List AV) : Option (Int32) := match as with
  | [.inr (.inr (.inl q0)), .inl a1] => (match (Nat.beq q0.1 3 && Nat.beq q0.2 37) with
    | true => some (a1)
    | false => none)
  | _ => none
theorem d_T_I_e {as : List AV} {x : Int32} (h : d_T_I as = some x) : as = [vR 3 37, vI x] := by
  unfold d_T_I at h
  split at h
  · split at h
    · next hb =>
      cases h
      simp only [Bool.and_eq_true, Bool.or_eq_true, Nat.beq_eq] at hb
      simp_all [vR, vI, vL, vX, Prod.ext_iff]
    · cases h
  · cases h
def d_T_W (as : List AV) : Option (Nat) := match as with
  | [.inr (.inr (.inl q0)), .inr (.inr (.inl q1))] => (match (Nat.beq q0.1 3 && Nat.beq q0.2 37) && Nat.beq q1.1 1 with
    | true => some (q1.2)
    | false => none)
  | _ => none
theorem d_T_W_e {as : List AV} {x : Nat} (h : d_T_W as = some x) : as = [vR 3 37, vR 1 x] := by
  unfold d_T_W at h
  split at h
  · split at h
    · next hb =>
      cases h
      simp only [Bool.and_eq_true, Bool.or_eq_true, Nat.beq_eq] at hb
      simp_all [vR, vI, vL, vX, Prod.ext_iff]
    · cases h
  · cases h
def d_T_WI (as : List AV) : Option (Nat × Int32) := match as with
  | [.inr (.inr (.inl q0)), .inr (.inr (.inl q1)), .inl a2] => (match (Nat.beq q0.1 3 && Nat.beq q0.2 37) && Nat.beq q1.1 1 with
    | true => some (q1.2, a2)
    | false => none)
  | _ => none
theorem d_T_WI_e {as : List AV} {x : Nat × Int32} (h : d_T_WI as = some x) : as = [vR 3 37, vR 1 x.1, vI x.2] := by
  unfold d_T_WI at h
  split at h
  · split at h
    · next hb =>
      cases h
      simp only [Bool.and_eq_true, Bool.or_eq_true, Nat.beq_eq] at hb
      simp_all [vR, vI, vL, vX, Prod.ext_iff]
    · cases h
  · cases h
def d_T_X (as : List AV) : Option (Nat) := match as with
  | [.inr (.inr (.inl q0)), .inr (.inr (.inr (m1 + 10)))] => (match (Nat.beq q0.1 3 && Nat.beq q0.2 37) with
    | true => some (m1)
    | false => none)
  | _ => none
theorem d_T_X_e {as : List AV} {x : Nat} (h : d_T_X as = some x) : as = [vR 3 37, vX (x + 10)] := by
  unfold d_T_X at h
  split at h
  · split at h
    · next hb =>
      cases h
      simp only [Bool.and_eq_true, Bool.or_eq_true, Nat.beq_eq] at hb
      simp_all [vR, vI, vL, vX, Prod.ext_iff]
    · cases h
  · cases h
def d_H (as : List AV) : Option (Nat) := match as with
  | [.inr (.inr (.inl q0))] => (match Nat.beq q0.1 4 with
    | true => some (q0.2)
    | false => none)
  | _ => none
theorem d_H_e {as : List AV} {x : Nat} (h : d_H as = some x) : as = [vR 4 x] := by
  unfold d_H at h
  split at h
  · split at h
    · next hb =>
      cases h
      simp only [Bool.and_eq_true, Bool.or_eq_true, Nat.beq_eq] at hb
      simp_all [vR, vI, vL, vX, Prod.ext_iff]
    · cases h
  · cases h
def d_H_II (as : List AV) : Option (Nat × Int32 × Int32) := match as with
  | [.inr (.inr (.inl q0)), .inl a1, .inl a2] => (match Nat.beq q0.1 4 with
    | true => some (q0.2, a1, a2)
    | false => none)
  | _ => none
theorem d_H_II_e {as : List AV} {x : Nat × Int32 × Int32} (h : d_H_II as = some x) : as = [vR 4 x.1, vI x.2.1, vI x.2.2] := by
  unfold d_H_II at h
  split at h
  · split at h
    · next hb =>
      cases h
      simp only [Bool.and_eq_true, Bool.or_eq_true, Nat.beq_eq] at hb
      simp_all [vR, vI, vL, vX, Prod.ext_iff]
    · cases h
  · cases h
def d_H_IJ (as : List AV) : Option (Nat × Int32 × Int64) := match as with
  | [.inr (.inr (.inl q0)), .inl a1, .inr (.inl a2)] => (match Nat.beq q0.1 4 with
    | true => some (q0.2, a1, a2)
    | false => none)
  | _ => none
theorem d_H_IJ_e {as : List AV} {x : Nat × Int32 × Int64} (h : d_H_IJ as = some x) : as = [vR 4 x.1, vI x.2.1, vL x.2.2] := by
  unfold d_H_IJ at h
  split at h
  · split at h
    · next hb =>
      cases h
      simp only [Bool.and_eq_true, Bool.or_eq_true, Nat.beq_eq] at hb
      simp_all [vR, vI, vL, vX, Prod.ext_iff]
    · cases h
  · cases h
def d_K_K (as : List AV) : Option (Nat × Nat) := match as with
  | [.inr (.inr (.inl q0)), .inr (.inr (.inl q1))] => (match Nat.beq q0.1 2 && Nat.beq q1.1 2 with
    | true => some (q0.2, q1.2)
    | false => none)
  | _ => none
theorem d_K_K_e {as : List AV} {x : Nat × Nat} (h : d_K_K as = some x) : as = [vR 2 x.1, vR 2 x.2] := by
  unfold d_K_K at h
  split at h
  · split at h
    · next hb =>
      cases h
      simp only [Bool.and_eq_true, Bool.or_eq_true, Nat.beq_eq] at hb
      simp_all [vR, vI, vL, vX, Prod.ext_iff]
    · cases h
  · cases h
def d_X (as : List AV) : Option (Nat) := match as with
  | [.inr (.inr (.inr (m + 10)))] => some (m)
  | _ => none
theorem d_X_e {as : List AV} {x : Nat} (h : d_X as = some x) : as = [vX (x + 10)] := by
  unfold d_X at h
  split at h
  · cases h; rfl
  · cases h
def d_X_I (as : List AV) : Option (Nat × Int32) := match as with
  | [.inr (.inr (.inr (m + 10))), .inl a1] => some (m, a1)
  | _ => none
theorem d_X_I_e {as : List AV} {x : Nat × Int32} (h : d_X_I as = some x) : as = [vX (x.1 + 10), vI x.2] := by
  unfold d_X_I at h
  split at h
  · cases h; rfl
  · cases h
/-! the JDK's own that the kit has rows of -/
def sp_min : SP := fun as hp K => pI as fun x r => pI r fun y r => pN r (K (some (vI (if y < x then y else x))) hp)
def sp_max : SP := fun as hp K => pI as fun x r => pI r fun y r => pN r (K (some (vI (if x < y then y else x))) hp)
def sp_minL : SP := fun as hp K => pL as fun x r => pL r fun y r => pN r (K (some (vL (if y < x then y else x))) hp)
def sp_acopy : SP := fun as hp K => pR as fun k0 c0 r => pI r fun sp r => pR r fun k1 c1 r => pI r fun dp r => pI r fun n r => pN r (
  (ash k0 0 fun n0 => ash k1 0 fun n1 => (¬ sp < 0 ∧ ¬ dp < 0 ∧ ¬ n < 0 ∧ sp.toNatClampNeg + n.toNatClampNeg ≤ n0 ∧ dp.toNatClampNeg + n.toNatClampNeg ≤ n1) ∧ K none (rI hp c1 (va_cpy (hp.1 c0) (hp.1 c1) sp.toNatClampNeg dp.toNatClampNeg n.toNatClampNeg))) ∨
  (ash k0 1 fun n0 => ash k1 1 fun n1 => (¬ sp < 0 ∧ ¬ dp < 0 ∧ ¬ n < 0 ∧ sp.toNatClampNeg + n.toNatClampNeg ≤ n0 ∧ dp.toNatClampNeg + n.toNatClampNeg ≤ n1) ∧ K none (rL hp c1 (va_cpy (hp.2 c0) (hp.2 c1) sp.toNatClampNeg dp.toNatClampNeg n.toNatClampNeg))))
theorem pN_m {st : List AV} {k k2 : Prop} (hk : k → k2) (h : pN st k) : pN st k2 := by
  obtain ⟨rfl, h⟩ := pN_e h
  exact hk h
theorem SC_min {own : String} {F L idx : Nat} (h1 : Cond.methodLink own idx Lib.Math.min.name ∈ Gw) (h2 : Cond.static Lib.Math.min.name ∈ Gw) (h4 : Cond.initialized "java/lang/Math" ∈ Gw) (h5 : Cond.code Lib.Math.min.name Lib.Math.min.code 2 (some .int) ∈ Gw) (hF : 1 ≤ F) (hL : 21 ≤ L) : SC own F L (idx, true, 2, sp_min) := by
  refine ⟨fun as hp K K2 hk h => pI_m (fun _ _ => pI_m (fun _ _ => pN_m (hk _ _))) h, ?_⟩
  intro p l e R s m args below meth c cc nL cells slots Qs D ad cy ex fm A sc hC hFR hLR pc lv as rest hp hdg hlen hwid hsp hv hs H locs ls hP hS hl
  obtain ⟨x, r, rfl, h⟩ := pI_e hsp
  obtain ⟨y, r, rfl, h⟩ := pI_e h
  obtain ⟨rfl, h⟩ := pN_e h
  have hts := hC.2.2.2.2.1
  refine va_mmin (rest := rest.map (cv ad ex fm)) hC.1 hC.2.1 (by rw [hC.2.2.1]; exact hl.1.symm) hC.2.2.2.1 (hts _ h1) (hts _ h2) (hts _ h4) (hts _ h5) (by omega) (by rw [cv_wid hC.2.2.2.2.2.2.2.2.2.1]; omega) hC.2.2.2.2.2.2.2.2.2.2.1.1 hC.2.2.2.2.2.2.2.2.2.2.1.2 hdg ?_
  exact h hv (vs_cn trivial (fun v h => hs v (List.mem_append_right _ h))) H locs ls hP hS hl
theorem SC_max {own : String} {F L idx : Nat} (h1 : Cond.methodLink own idx Lib.Math.max.name ∈ Gw) (h2 : Cond.static Lib.Math.max.name ∈ Gw) (h4 : Cond.initialized "java/lang/Math" ∈ Gw) (h5 : Cond.code Lib.Math.max.name Lib.Math.max.code 2 (some .int) ∈ Gw) (hF : 1 ≤ F) (hL : 21 ≤ L) : SC own F L (idx, true, 2, sp_max) := by
  refine ⟨fun as hp K K2 hk h => pI_m (fun _ _ => pI_m (fun _ _ => pN_m (hk _ _))) h, ?_⟩
  intro p l e R s m args below meth c cc nL cells slots Qs D ad cy ex fm A sc hC hFR hLR pc lv as rest hp hdg hlen hwid hsp hv hs H locs ls hP hS hl
  obtain ⟨x, r, rfl, h⟩ := pI_e hsp
  obtain ⟨y, r, rfl, h⟩ := pI_e h
  obtain ⟨rfl, h⟩ := pN_e h
  have hts := hC.2.2.2.2.1
  refine va_mmax (rest := rest.map (cv ad ex fm)) hC.1 hC.2.1 (by rw [hC.2.2.1]; exact hl.1.symm) hC.2.2.2.1 (hts _ h1) (hts _ h2) (hts _ h4) (hts _ h5) (by omega) (by rw [cv_wid hC.2.2.2.2.2.2.2.2.2.1]; omega) hC.2.2.2.2.2.2.2.2.2.2.1.1 hC.2.2.2.2.2.2.2.2.2.2.1.2 hdg ?_
  exact h hv (vs_cn trivial (fun v h => hs v (List.mem_append_right _ h))) H locs ls hP hS hl
theorem SC_minL {own : String} {F L idx : Nat} (h1 : Cond.methodLink own idx Lib.MathLoose.min_long.x ∈ Gw) (h2 : Cond.static Lib.MathLoose.min_long.x ∈ Gw) (h4 : Cond.initialized "java/lang/Math" ∈ Gw) (h5 : Cond.code Lib.MathLoose.min_long.x Lib.MathLoose.min_long.code 4 (some .long) ∈ Gw) (hF : 1 ≤ F) (hL : 23 ≤ L) : SC own F L (idx, true, 2, sp_minL) := by
  refine ⟨fun as hp K K2 hk h => pL_m (fun _ _ => pL_m (fun _ _ => pN_m (hk _ _))) h, ?_⟩
  intro p l e R s m args below meth c cc nL cells slots Qs D ad cy ex fm A sc hC hFR hLR pc lv as rest hp hdg hlen hwid hsp hv hs H locs ls hP hS hl
  obtain ⟨x, r, rfl, h⟩ := pL_e hsp
  obtain ⟨y, r, rfl, h⟩ := pL_e h
  obtain ⟨rfl, h⟩ := pN_e h
  have hts := hC.2.2.2.2.1
  refine va_mmin_long (rest := rest.map (cv ad ex fm)) hC.1 hC.2.1 (by rw [hC.2.2.1]; exact hl.1.symm) hC.2.2.2.1 (hts _ h1) (hts _ h2) (hts _ h4) (hts _ h5) (by omega) (by rw [cv_wid hC.2.2.2.2.2.2.2.2.2.1]; omega) hC.2.2.2.2.2.2.2.2.2.2.1.1 hC.2.2.2.2.2.2.2.2.2.2.1.2 hdg ?_
  exact h hv (vs_cn trivial (fun v h => hs v (List.mem_append_right _ h))) H locs ls hP hS hl
theorem SC_acopy {own : String} {F L idx : Nat} (h1 : Cond.methodLink own idx arraycopyName ∈ Gw) (h2 : Cond.native arraycopyName ∈ Gw) (h3 : Cond.static arraycopyName ∈ Gw) (h4 : Cond.initialized "java/lang/System" ∈ Gw) (hF : 1 ≤ F) (hL : 26 ≤ L) : SC own F L (idx, true, 5, sp_acopy) := by
  refine ⟨fun as hp K K2 hk h => ?_, ?_⟩
  · show sp_acopy as hp K2
    have h : sp_acopy as hp K := h
    unfold sp_acopy at h ⊢
    refine pR_m ?_ h
    intro k0 c0 r h
    refine pI_m ?_ h
    intro x r h
    refine pR_m ?_ h
    intro k1 c1 r h
    refine pI_m ?_ h
    intro y r h
    refine pI_m ?_ h
    intro z r h
    refine pN_m ?_ h
    intro h
    rcases h with h | h
    · exact Or.inl (ash_m (fun _ => ash_m (fun _ h => ⟨h.1, hk _ _ h.2⟩)) h)
    · exact Or.inr (ash_m (fun _ => ash_m (fun _ h => ⟨h.1, hk _ _ h.2⟩)) h)
  intro p l e R s m args below meth c cc nL cells slots Qs D ad cy ex fm A sc hC hFR hLR pc lv as rest hp hdg hlen hwid hsp hv hs H locs ls hP hS hl
  dsimp only at hsp
  unfold sp_acopy at hsp
  obtain ⟨k0, c0, r0, e0, ha⟩ := pR_e hsp
  obtain ⟨sp, r1, e1, hb⟩ := pI_e ha
  obtain ⟨k1, c1, r2, e2, hc⟩ := pR_e hb
  obtain ⟨dp, r3, e3, hd⟩ := pI_e hc
  obtain ⟨n, r4, e4, he⟩ := pI_e hd
  obtain ⟨e5, h⟩ := pN_e he
  subst e5 e4 e3 e2 e1 e0
  have hts := hC.2.2.2.2.1
  have hv0 : vld (vR k0 c0) := hs _ (List.mem_append_left _ (List.mem_reverse.mpr List.mem_cons_self))
  have hv1 : vld (vR k1 c1) := hs _ (List.mem_append_left _ (List.mem_reverse.mpr (List.mem_cons_of_mem _ (List.mem_cons_of_mem _ List.mem_cons_self))))
  have hDD := ab_K (ad := ad) (cy := cy) (hp := hp) hC.2.2.2.2.2.2.1 hC.2.2.2.2.2.2.2.1
  have hnw : nativeFrameWords "java/lang/System" "arraycopy" 5 = 7 := by decide
  rcases h with h | h
  · obtain ⟨a0, ha0, ht0, h⟩ := ash_e h
    obtain ⟨a1, ha1, ht1, ⟨n1, n2, n3, n4, n5⟩, h⟩ := ash_e h
    have he0 := ab_row (ad := ad) (cy := cy) (hp := hp) hv0 ha0
    rw [ab_ar0 ht0] at he0
    have he1 := ab_row (ad := ad) (cy := cy) (hp := hp) hv1 ha1
    rw [ab_ar0 ht1] at he1
    refine va_copyi (rest := rest.map (cv ad ex fm)) hC.1 hC.2.1 (by rw [hC.2.2.1]; exact hl.1.symm) hC.2.2.2.1 (hts _ h1) (hts _ h2) (hts _ h3) (hts _ h4) hC.2.2.2.2.2.1 hP hDD hS c0 c1 0 0 he0 he1 rfl rfl rfl n1 n2 n3 n4 n5 (fun _ _ => rfl) (by omega) (by rw [cv_wid hC.2.2.2.2.2.2.2.2.2.1, hnw]; omega) hdg (fun H1 locs1 hP1 _ hS1 => ?_)
    refine h hv (fun v h => hs v (List.mem_append_right _ h)) H1 locs1 ls (ab_put (hp := hp) (hq := rI hp c1 (va_cpy (hp.1 c0) (hp.1 c1) sp.toNatClampNeg dp.toNatClampNeg n.toNatClampNeg)) hv1.1 (fun d hd => ⟨rI_ne hp _ hd, rfl⟩) ?_ hP1) hS1 hl
    rw [ab_rowq hv1 ha1, ab_ar0 ht1, rI_eq]
  · obtain ⟨a0, ha0, ht0, h⟩ := ash_e h
    obtain ⟨a1, ha1, ht1, ⟨n1, n2, n3, n4, n5⟩, h⟩ := ash_e h
    have he0 := ab_row (ad := ad) (cy := cy) (hp := hp) hv0 ha0
    rw [ab_ar1 ht0] at he0
    have he1 := ab_row (ad := ad) (cy := cy) (hp := hp) hv1 ha1
    rw [ab_ar1 ht1] at he1
    refine va_copyl (rest := rest.map (cv ad ex fm)) hC.1 hC.2.1 (by rw [hC.2.2.1]; exact hl.1.symm) hC.2.2.2.1 (hts _ h1) (hts _ h2) (hts _ h3) (hts _ h4) hC.2.2.2.2.2.1 hP hDD hS c0 c1 1 1 he0 he1 rfl rfl rfl n1 n2 n3 n4 n5 (fun _ _ => rfl) (by omega) (by rw [cv_wid hC.2.2.2.2.2.2.2.2.2.1, hnw]; omega) hdg (fun H1 locs1 hP1 _ hS1 => ?_)
    refine h hv (fun v h => hs v (List.mem_append_right _ h)) H1 locs1 ls (ab_put (hp := hp) (hq := rL hp c1 (va_cpy (hp.2 c0) (hp.2 c1) sp.toNatClampNeg dp.toNatClampNeg n.toNatClampNeg)) hv1.1 (fun d hd => ⟨rfl, rL_ne hp _ hd⟩) ?_ hP1) hS1 hl
    rw [ab_rowq hv1 ha1, ab_ar1 ht1, rL_eq]
end
section
/-! plain functions of the ward, over the reference's row -/
def bB (b : Bool) : Int32 := if b then 1 else 0
def inB (x : Int32) (n : Nat) : Bool := decide (¬ (x < 0 ∨ n ≤ x.toNatClampNeg))
theorem inB_t {x : Int32} {n : Nat} : inB x n = true ↔ vp_in x n := decide_eq_true_iff
theorem inB_f {x : Int32} {n : Nat} : inB x n = false ↔ ¬ vp_in x n := by unfold inB vp_in; exact decide_eq_false_iff_not
theorem bB_0 {b : Bool} : bB b = 0 ↔ b = false := by cases b <;> decide
theorem bB_1 {b : Bool} : ¬ bB b = 0 ↔ b = true := by cases b <;> decide
theorem bB_01 (b : Bool) : bB b = 0 ∨ bB b = 1 := by cases b <;> decide
theorem nI_lt31 {n N : Nat} (h : n < N) (hN : N < 2 ^ 31) : n < 2 ^ 31 := Nat.lt_trans h hN
theorem in_iff {v : Int32} {n : Nat} (hn : n + 1 < 2 ^ 31) : (nI 0 ≤ v ∧ v ≤ nI n) ↔ vp_in v (n + 1) := by
  rw [vp_in_iff, Int32.le_iff_toInt_le, Int32.le_iff_toInt_le, nI_toInt (by omega), nI_toInt (by omega)]
  omega
theorem in_b {v : Int32} {n : Nat} (hn : n + 1 < 2 ^ 31) : (decide (nI 0 ≤ v) && decide (v ≤ nI n)) = inB v (n + 1) := by
  rw [Bool.eq_iff_iff, inB_t, ← in_iff hn, Bool.and_eq_true, decide_eq_true_iff, decide_eq_true_iff]
theorem q_i {Q : QP} {x y : Int32} {hp : HP} (h : Q (some (vI x)) hp) (e : y = x) : Q (some (vI y)) hp := e ▸ h
theorem q_l {Q : QP} {x y : Int64} {hp : HP} (h : Q (some (vL x)) hp) (e : y = x) : Q (some (vL y)) hp := e ▸ h
theorem q_b {Q : QP} {b : Bool} {y : Int32} {hp : HP} (h : Q (some (vI (bB b))) hp) (e : y = bB b) : (y = 0 ∨ y = 1) ∧ Q (some (vI y)) hp := by
  subst e
  exact ⟨bB_01 b, h⟩
theorem q_ih {Q : QP} {x y : Int32} {hp hq : HP} (h : Q (some (vI x)) hp) (e : y = x) (e2 : hq = hp) : Q (some (vI y)) hq := by
  subst e e2
  exact h
theorem q_n {Q : QP} {hp hq : HP} (h : Q none hp) (e2 : hq = hp) : Q none hq := e2 ▸ h
theorem nI_ix {n : Nat} (h : n < 2 ^ 31) : (nI n).toNatClampNeg = n := nI_clamp h
/-- the square in a way (99: none), and where its door stands in the row -/
def bsd (q w : Nat) : Nat := match w with
  | 0 => if 5 ≤ q then q - 5 else 99
  | 1 => if q % 5 = 4 then 99 else q + 1
  | 2 => if 19 < q then 99 else q + 5
  | _ => if q % 5 = 0 then 99 else q - 1
def bsV (q w : Nat) : Int32 := if bsd q w = 99 then (if w = 0 then nI q - nI 5 else -1) else nI (bsd q w)
def dr (q w : Nat) : Nat := match w with
  | 0 => 119 + q - 5
  | 1 => 94 + q
  | 2 => 119 + q
  | _ => 94 + q - 1
def mayB (f : Nat → Int32) (q w : Nat) : Bool := !(bsd q w == 99) && decide (f (dr q w) = 0)
def wyt (a b : Nat) : Nat := if bsd a 3 = b then 3 else if bsd a 2 = b then 2 else if bsd a 1 = b then 1 else if bsd a 0 = b then 0 else 4
def wyV (a b : Nat) : Int32 := if wyt a b = 4 then -1 else nI (wyt a b)
theorem bsd_lt : ∀ q, q < 25 → ∀ w, w < 4 → bsd q w = 99 ∨ bsd q w < 25 := by decide +kernel
theorem bsV_neg : ∀ q, q < 25 → ∀ w, w < 4 → (bsV q w < 0 ↔ bsd q w = 99) := by decide +kernel
theorem dr_lt {q w : Nat} (hq : q < 25) : dr q w < 184 := by
  unfold dr
  split <;> omega
theorem rI_rI (hp : HP) (c : Nat) (f g : Nat → Int32) : rI (rI hp c f) c g = rI hp c g := by
  refine Prod.ext ?_ rfl
  funext d
  by_cases h : d = c
  · subst h; rw [rI_eq, rI_eq]
  · rw [rI_ne _ _ h, rI_ne _ _ h, rI_ne _ _ h]
theorem rI_self (hp : HP) (c : Nat) : rI hp c (hp.1 c) = hp := by
  refine Prod.ext ?_ rfl
  funext d
  by_cases h : d = c
  · subst h; rw [rI_eq]
  · rw [rI_ne _ _ h]
theorem rL_rL (hp : HP) (c : Nat) (f g : Nat → Int64) : rL (rL hp c f) c g = rL hp c g := by
  refine Prod.ext rfl ?_
  funext d
  by_cases h : d = c
  · subst h; rw [rL_eq, rL_eq]
  · rw [rL_ne _ _ h, rL_ne _ _ h, rL_ne _ _ h]
theorem rL_self (hp : HP) (c : Nat) : rL hp c (hp.2 c) = hp := by
  refine Prod.ext rfl ?_
  funext d
  by_cases h : d = c
  · subst h; rw [rL_eq]
  · rw [rL_ne _ _ h]
theorem rI_comm (hp : HP) {c d : Nat} (f g : Nat → Int32) (h : c ≠ d) : rI (rI hp c f) d g = rI (rI hp d g) c f := by
  refine Prod.ext ?_ rfl
  funext e
  by_cases h1 : e = d
  · subst h1
    rw [rI_eq, rI_ne _ _ (Ne.symm h), rI_eq]
  · by_cases h2 : e = c
    · subst h2
      rw [rI_ne _ _ h1, rI_eq, rI_eq]
    · rw [rI_ne _ _ h1, rI_ne _ _ h2, rI_ne _ _ h2, rI_ne _ _ h1]
theorem uI_r (hp : HP) (c k : Nat) (v : Int32) : uI hp c k v = rI hp c (upd (hp.1 c) k v) := rfl
theorem uI_rI (hp : HP) (c k : Nat) (f : Nat → Int32) (v : Int32) : uI (rI hp c f) c k v = rI hp c (upd f k v) := by rw [uI_r, rI_eq, rI_rI]
theorem upd_at (f : Nat → Int32) (k : Nat) (v : Int32) (j : Nat) : upd f k v j = if j = k then v else f j := rfl
theorem upL_at (f : Nat → Int64) (k : Nat) (v : Int64) (j : Nat) : vp_updL f k v j = if j = k then v else f j := rfl
theorem for_up {P : Nat → Prop} (N : Nat) (hx : P N) (hs : ∀ k, k < N → P (k + 1) → P k) : ∀ k, k ≤ N → P k := by
  have h : ∀ n k, k + n = N → P k := by
    intro n
    induction n with
    | zero => intro k hk; rw [show k = N by omega]; exact hx
    | succ n ih => intro k hk; exact hs k (by omega) (ih (k + 1) (by omega))
  exact fun k hk => h (N - k) k (by omega)
def fold (g : Nat → Int32 → Int32) (z : Int32) : Nat → Int32
  | 0 => z
  | n + 1 => g n (fold g z n)
/-- the first that a function tells, from k on, of n -/
def ff (v : Nat → Option Int32) (d : Int32) : Nat → Nat → Int32
  | 0, _ => d
  | n + 1, k => match v k with
    | some r => r
    | none => ff v d n (k + 1)
theorem ff_s {v : Nat → Option Int32} {d : Int32} {n k : Nat} {r : Int32} (h : v k = some r) : ff v d (n + 1) k = r := by
  unfold ff; rw [h]
theorem ff_n {v : Nat → Option Int32} {d : Int32} {n k : Nat} (h : v k = none) : ff v d (n + 1) k = ff v d n (k + 1) := by
  show (match v k with | some r => r | none => ff v d n (k + 1)) = _
  rw [h]
theorem ff_congr {v u : Nat → Option Int32} {d : Int32} : ∀ {n k : Nat}, (∀ j, k ≤ j → j < k + n → v j = u j) → ff v d n k = ff u d n k
  | 0, _, _ => rfl
  | n + 1, k, h => by
    unfold ff
    rw [h k (Nat.le_refl k) (by omega)]
    split
    · rfl
    · exact ff_congr (fun j h1 h2 => h j (by omega) (by omega))
theorem nI_s (k : Nat) : nI k + nI 1 = nI (k + 1) := nI_add k 1
theorem nI_rem {a d : Nat} (ha : a < 2 ^ 31) (h0 : 0 < d) (hd : d < 2 ^ 31) : nI a - nI a / nI d * nI d = nI (a % d) := pk_rem ha h0 hd
theorem nI_ne {a b : Nat} (ha : a < 2 ^ 31) (hb : b < 2 ^ 31) : ¬ nI a = nI b ↔ a ≠ b := by rw [nI_eq ha hb]
def wayB (c : Nat → Bool) (way k : Nat) : Option Int32 := if c ((way + k) % 4) then some (nI ((way + k) % 4)) else none
def trnV (c : Nat → Bool) (way : Nat) : Int32 := ff (wayB c way) (-1) 4 0
end
section
def sp_X5_in : SP := spP d_S_III (fun _ _ => True) (fun x _ => vI (bB (decide (x.2.1 ≤ x.1) && decide (x.1 ≤ x.2.2))))
def E_X5_in : EN := []
set_option maxRecDepth 100000 in
set_option maxHeartbeats 4000000 in
theorem c_X5_in : Ctr M_X5_in sp_X5_in := by
  refine ctr_of (own := RX5) M_X5_in sp_X5_in (P := P_X5_in) (K := K_X5) (E := E_X5_in) (by decide) rfl pk_X5_in K_X5_ok (fun _ h => absurd h List.not_mem_nil) (fun as hp Q h => by obtain ⟨x, hx, -⟩ := spP_e h; rw [d_S_III_e hx]; exact Nat.le_of_ble_eq_true rfl) ?_
  intro Q G hQi hG as hp h
  obtain ⟨x, hx, hpre, hQ⟩ := spP_e h
  rw [d_S_III_e hx]
  clear h hx
  obtain ⟨v, a, b⟩ := x
  try dsimp only at hpre hQ ⊢
  refine run hG [] 20 ?_
  refine And.intro (fun h1 => ?_) (fun h1 => ?_)
  · refine q_b hQ ?_
    have : ¬ a ≤ v := Int32.not_le.mpr h1
    simp [this, bB, nI]
  · refine And.intro (fun h2 => ?_) (fun h2 => ?_)
    · refine q_b hQ ?_
      have : ¬ v ≤ b := Int32.not_le.mpr h2
      simp [this, bB, nI]
    · refine q_b hQ ?_
      have h1 : a ≤ v := Int32.not_lt.mp h1
      have h2 : v ≤ b := Int32.not_lt.mp h2
      simp [h1, h2, bB, nI]
theorem sc_X5_in {own : String} {F L idx : Nat} (h1 : Cond.methodLink own idx yX5_in ∈ Gw) (hF : 1 ≤ F) (hL : 22 ≤ L) : SC own F L (idx, true, 3, sp_X5_in) := SC_S spP_mono c_X5_in h1 gw_884 gw_75 gw_885 (by decide +kernel) hF hL
def sp_X5_no : SP := spH d_M_I (fun x _ => vp_in x 7) (fun x _ => some (vI (-1000000001 - x))) (fun x hp => uI hp 57 x.toNatClampNeg (hp.1 57 x.toNatClampNeg + nI 1))
def E_X5_no : EN := []
set_option maxRecDepth 100000 in
set_option maxHeartbeats 4000000 in
theorem c_X5_no : Ctr M_X5_no sp_X5_no := by
  refine ctr_of (own := RX5) M_X5_no sp_X5_no (P := P_X5_no) (K := K_X5) (E := E_X5_no) (by decide) rfl pk_X5_no K_X5_ok (fun _ h => absurd h List.not_mem_nil) (fun as hp Q h => by obtain ⟨x, hx, -⟩ := spH_e h; rw [d_M_I_e hx]; exact Nat.le_of_ble_eq_true rfl) ?_
  intro Q G hQi hG as hp h
  obtain ⟨x, hx, hpre, hQ⟩ := spH_e h
  rw [d_M_I_e hx]
  clear h hx
  refine run hG [] 20 ?_
  refine And.intro hpre ?_
  refine And.intro hpre ?_
  exact hQ
theorem sc_X5_no {own : String} {F L idx : Nat} (h1 : Cond.methodLink own idx yX5_no ∈ Gw) (hF : 1 ≤ F) (hL : 21 ≤ L) : SC own F L (idx, false, 2, sp_X5_no) := SC_V spH_mono c_X5_no okd_5 (fun as hp K h => by obtain ⟨x, hx, -⟩ := spH_e h; exact ⟨_, _, d_M_I_e hx⟩) h1 gw_897 gw_22 gw_75 gw_898 (by decide +kernel) hF hL
def sp_X5_isSquare : SP := spP d_S_I (fun _ _ => True) (fun x _ => vI (bB (inB x 25)))
def E_X5_isSquare : EN := [(55, true, 3, sp_X5_in)]
set_option maxRecDepth 100000 in
set_option maxHeartbeats 4000000 in
theorem c_X5_isSquare : Ctr M_X5_isSquare sp_X5_isSquare := by
  refine ctr_of (own := RX5) M_X5_isSquare sp_X5_isSquare (P := P_X5_isSquare) (K := K_X5) (E := E_X5_isSquare) (by decide) rfl pk_X5_isSquare K_X5_ok (List.forall_mem_cons.mpr ⟨sc_X5_in gw_883 (by decide) (by decide), fun _ h => absurd h List.not_mem_nil⟩) (fun as hp Q h => by obtain ⟨x, hx, -⟩ := spP_e h; rw [d_S_I_e hx]; exact Nat.le_of_ble_eq_true rfl) ?_
  intro Q G hQi hG as hp h
  obtain ⟨x, hx, hpre, hQ⟩ := spP_e h
  rw [d_S_I_e hx]
  clear h hx
  refine run hG [] 20 ?_
  refine And.intro trivial ?_
  exact q_b hQ (congrArg bB (in_b (n := 24) (by omega)))
theorem sc_X5_isSquare {own : String} {F L idx : Nat} (h1 : Cond.methodLink own idx yX5_isSquare ∈ Gw) (hF : 2 ≤ F) (hL : 42 ≤ L) : SC own F L (idx, true, 1, sp_X5_isSquare) := SC_S spP_mono c_X5_isSquare h1 gw_881 gw_75 gw_882 (by decide +kernel) hF hL
def sp_X5_isWay : SP := spP d_S_I (fun _ _ => True) (fun x _ => vI (bB (inB x 4)))
def E_X5_isWay : EN := [(55, true, 3, sp_X5_in)]
set_option maxRecDepth 100000 in
set_option maxHeartbeats 4000000 in
theorem c_X5_isWay : Ctr M_X5_isWay sp_X5_isWay := by
  refine ctr_of (own := RX5) M_X5_isWay sp_X5_isWay (P := P_X5_isWay) (K := K_X5) (E := E_X5_isWay) (by decide) rfl pk_X5_isWay K_X5_ok (List.forall_mem_cons.mpr ⟨sc_X5_in gw_883 (by decide) (by decide), fun _ h => absurd h List.not_mem_nil⟩) (fun as hp Q h => by obtain ⟨x, hx, -⟩ := spP_e h; rw [d_S_I_e hx]; exact Nat.le_of_ble_eq_true rfl) ?_
  intro Q G hQi hG as hp h
  obtain ⟨x, hx, hpre, hQ⟩ := spP_e h
  rw [d_S_I_e hx]
  clear h hx
  refine run hG [] 20 ?_
  refine And.intro trivial ?_
  exact q_b hQ (congrArg bB (in_b (n := 3) (by omega)))
theorem sc_X5_isWay {own : String} {F L idx : Nat} (h1 : Cond.methodLink own idx yX5_isWay ∈ Gw) (hF : 2 ≤ F) (hL : 42 ≤ L) : SC own F L (idx, true, 1, sp_X5_isWay) := SC_S spP_mono c_X5_isWay h1 gw_948 gw_75 gw_949 (by decide +kernel) hF hL
def sp_X5_isKind : SP := spP d_S_I (fun _ _ => True) (fun x _ => vI (bB (inB x 6)))
def E_X5_isKind : EN := [(55, true, 3, sp_X5_in)]
set_option maxRecDepth 100000 in
set_option maxHeartbeats 4000000 in
theorem c_X5_isKind : Ctr M_X5_isKind sp_X5_isKind := by
  refine ctr_of (own := RX5) M_X5_isKind sp_X5_isKind (P := P_X5_isKind) (K := K_X5) (E := E_X5_isKind) (by decide) rfl pk_X5_isKind K_X5_ok (List.forall_mem_cons.mpr ⟨sc_X5_in gw_883 (by decide) (by decide), fun _ h => absurd h List.not_mem_nil⟩) (fun as hp Q h => by obtain ⟨x, hx, -⟩ := spP_e h; rw [d_S_I_e hx]; exact Nat.le_of_ble_eq_true rfl) ?_
  intro Q G hQi hG as hp h
  obtain ⟨x, hx, hpre, hQ⟩ := spP_e h
  rw [d_S_I_e hx]
  clear h hx
  refine run hG [] 20 ?_
  refine And.intro trivial ?_
  exact q_b hQ (congrArg bB (in_b (n := 5) (by omega)))
theorem sc_X5_isKind {own : String} {F L idx : Nat} (h1 : Cond.methodLink own idx yX5_isKind ∈ Gw) (hF : 2 ≤ F) (hL : 42 ≤ L) : SC own F L (idx, true, 1, sp_X5_isKind) := SC_S spP_mono c_X5_isKind h1 gw_945 gw_75 gw_946 (by decide +kernel) hF hL
def sp_X5_isSheet : SP := spP d_S_I (fun _ _ => True) (fun x _ => vI (bB (inB x 4)))
def E_X5_isSheet : EN := [(55, true, 3, sp_X5_in)]
set_option maxRecDepth 100000 in
set_option maxHeartbeats 4000000 in
theorem c_X5_isSheet : Ctr M_X5_isSheet sp_X5_isSheet := by
  refine ctr_of (own := RX5) M_X5_isSheet sp_X5_isSheet (P := P_X5_isSheet) (K := K_X5) (E := E_X5_isSheet) (by decide) rfl pk_X5_isSheet K_X5_ok (List.forall_mem_cons.mpr ⟨sc_X5_in gw_883 (by decide) (by decide), fun _ h => absurd h List.not_mem_nil⟩) (fun as hp Q h => by obtain ⟨x, hx, -⟩ := spP_e h; rw [d_S_I_e hx]; exact Nat.le_of_ble_eq_true rfl) ?_
  intro Q G hQi hG as hp h
  obtain ⟨x, hx, hpre, hQ⟩ := spP_e h
  rw [d_S_I_e hx]
  clear h hx
  refine run hG [] 20 ?_
  refine And.intro trivial ?_
  exact q_b hQ (congrArg bB (in_b (n := 3) (by omega)))
theorem sc_X5_isSheet {own : String} {F L idx : Nat} (h1 : Cond.methodLink own idx yX5_isSheet ∈ Gw) (hF : 2 ≤ F) (hL : 42 ≤ L) : SC own F L (idx, true, 1, sp_X5_isSheet) := SC_S spP_mono c_X5_isSheet h1 gw_1256 gw_75 gw_1257 (by decide +kernel) hF hL
def sp_X5_has : SP := spP d_M_II (fun x _ => vp_in x.1 8 ∧ vp_in x.2 5) (fun x hp => vI (hp.1 53 (144 + 5 * x.1.toNatClampNeg + x.2.toNatClampNeg)))
theorem has_ix {w k : Nat} (hw : w < 8) (hk : k < 5) : nI 144 + nI 5 * nI w + nI k = nI (144 + 5 * w + k) := by rw [pk_mul, nI_add, nI_add]
def E_X5_has : EN := []
set_option maxRecDepth 100000 in
set_option maxHeartbeats 4000000 in
theorem c_X5_has : Ctr M_X5_has sp_X5_has := by
  refine ctr_of (own := RX5) M_X5_has sp_X5_has (P := P_X5_has) (K := K_X5) (E := E_X5_has) (by decide) rfl pk_X5_has K_X5_ok (fun _ h => absurd h List.not_mem_nil) (fun as hp Q h => by obtain ⟨x, hx, -⟩ := spP_e h; rw [d_M_II_e hx]; exact Nat.le_of_ble_eq_true rfl) ?_
  intro Q G hQi hG as hp h
  obtain ⟨x, hx, hpre, hQ⟩ := spP_e h
  rw [d_M_II_e hx]
  clear h hx
  obtain ⟨w, k⟩ := x
  try dsimp only at hpre hQ ⊢
  obtain ⟨hw0, hk0⟩ := hpre
  obtain ⟨w, hw, rfl⟩ := vp_in_of hw0 (by omega)
  obtain ⟨k, hk, rfl⟩ := vp_in_of hk0 (by omega)
  rw [nI_clamp (by omega), nI_clamp (by omega)] at hQ
  refine run hG [] 20 ?_
  refine And.intro ?_ ?_
  · rw [has_ix hw hk]
    exact vp_in_nI (by omega) (by omega)
  · refine q_i hQ ?_
    rw [has_ix hw hk, nI_clamp (by omega)]
theorem sc_X5_has {own : String} {F L idx : Nat} (h1 : Cond.methodLink own idx yX5_has ∈ Gw) (hF : 1 ≤ F) (hL : 22 ≤ L) : SC own F L (idx, false, 3, sp_X5_has) := SC_V spP_mono c_X5_has okd_5 (fun as hp K h => by obtain ⟨x, hx, -⟩ := spP_e h; exact ⟨_, _, d_M_II_e hx⟩) h1 gw_926 gw_25 gw_75 gw_927 (by decide +kernel) hF hL
def sp_X5_gets : SP := spH d_M_III (fun x _ => vp_in x.1 8 ∧ vp_in x.2.1 5) (fun x hp => some (vI (hp.1 53 (144 + 5 * x.1.toNatClampNeg + x.2.1.toNatClampNeg)))) (fun x hp => uI hp 53 (144 + 5 * x.1.toNatClampNeg + x.2.1.toNatClampNeg) x.2.2)
def E_X5_gets : EN := [(59, false, 3, sp_X5_has)]
set_option maxRecDepth 100000 in
set_option maxHeartbeats 4000000 in
theorem c_X5_gets : Ctr M_X5_gets sp_X5_gets := by
  refine ctr_of (own := RX5) M_X5_gets sp_X5_gets (P := P_X5_gets) (K := K_X5) (E := E_X5_gets) (by decide) rfl pk_X5_gets K_X5_ok (List.forall_mem_cons.mpr ⟨sc_X5_has gw_924 (by decide) (by decide), fun _ h => absurd h List.not_mem_nil⟩) (fun as hp Q h => by obtain ⟨x, hx, -⟩ := spH_e h; rw [d_M_III_e hx]; exact Nat.le_of_ble_eq_true rfl) ?_
  intro Q G hQi hG as hp h
  obtain ⟨x, hx, hpre, hQ⟩ := spH_e h
  rw [d_M_III_e hx]
  clear h hx
  obtain ⟨w, k, v⟩ := x
  try dsimp only at hpre hQ ⊢
  obtain ⟨hw0, hk0⟩ := hpre
  refine run hG [] 20 ?_
  refine And.intro ⟨hw0, hk0⟩ ?_
  obtain ⟨w, hw, rfl⟩ := vp_in_of hw0 (by omega)
  obtain ⟨k, hk, rfl⟩ := vp_in_of hk0 (by omega)
  rw [nI_clamp (by omega), nI_clamp (by omega)] at hQ
  refine And.intro ?_ ?_
  · rw [has_ix hw hk]
    exact vp_in_nI (by omega) (by omega)
  · refine q_ih hQ ?_ ?_
    · rw [nI_clamp (by omega), nI_clamp (by omega)]
    · rw [has_ix hw hk, nI_clamp (by omega)]
theorem sc_X5_gets {own : String} {F L idx : Nat} (h1 : Cond.methodLink own idx yX5_gets ∈ Gw) (hF : 2 ≤ F) (hL : 46 ≤ L) : SC own F L (idx, false, 4, sp_X5_gets) := SC_V spH_mono c_X5_gets okd_5 (fun as hp K h => by obtain ⟨x, hx, -⟩ := spH_e h; exact ⟨_, _, d_M_III_e hx⟩) h1 gw_956 gw_27 gw_75 gw_957 (by decide +kernel) hF hL
def sp_X5_puts : SP := spH d_M_II (fun x _ => vp_in x.1 184) (fun x hp => some (vI (hp.1 53 x.1.toNatClampNeg))) (fun x hp => uI hp 53 x.1.toNatClampNeg x.2)
def E_X5_puts : EN := []
set_option maxRecDepth 100000 in
set_option maxHeartbeats 4000000 in
theorem c_X5_puts : Ctr M_X5_puts sp_X5_puts := by
  refine ctr_of (own := RX5) M_X5_puts sp_X5_puts (P := P_X5_puts) (K := K_X5) (E := E_X5_puts) (by decide) rfl pk_X5_puts K_X5_ok (fun _ h => absurd h List.not_mem_nil) (fun as hp Q h => by obtain ⟨x, hx, -⟩ := spH_e h; rw [d_M_II_e hx]; exact Nat.le_of_ble_eq_true rfl) ?_
  intro Q G hQi hG as hp h
  obtain ⟨x, hx, hpre, hQ⟩ := spH_e h
  rw [d_M_II_e hx]
  clear h hx
  obtain ⟨a, v⟩ := x
  try dsimp only at hpre hQ ⊢
  refine run hG [] 20 ?_
  refine And.intro hpre ?_
  refine And.intro hpre ?_
  exact hQ
theorem sc_X5_puts {own : String} {F L idx : Nat} (h1 : Cond.methodLink own idx yX5_puts ∈ Gw) (hF : 1 ≤ F) (hL : 23 ≤ L) : SC own F L (idx, false, 3, sp_X5_puts) := SC_V spH_mono c_X5_puts okd_5 (fun as hp K h => by obtain ⟨x, hx, -⟩ := spH_e h; exact ⟨_, _, d_M_II_e hx⟩) h1 gw_902 gw_23 gw_75 gw_903 (by decide +kernel) hF hL
def sp_X5_lay : SP := spH d_S_AA (fun x _ => kc x.1 = 15 ∧ kc x.2 = 15 ∧ x.1 ≠ x.2) (fun _ _ => none) (fun x hp => rI hp x.2 (hp.1 x.1))
def E_X5_lay : EN := []
set_option maxRecDepth 100000 in
set_option maxHeartbeats 4000000 in
theorem c_X5_lay : Ctr M_X5_lay sp_X5_lay := by
  refine ctr_of (own := RX5) M_X5_lay sp_X5_lay (P := P_X5_lay) (K := K_X5) (E := E_X5_lay) (by decide) rfl pk_X5_lay K_X5_ok (fun _ h => absurd h List.not_mem_nil) (fun as hp Q h => by obtain ⟨x, hx, -⟩ := spH_e h; rw [d_S_AA_e hx]; exact Nat.le_of_ble_eq_true rfl) ?_
  intro Q G hQi hG as hp h
  obtain ⟨x, hx, hpre, hQ⟩ := spH_e h
  rw [d_S_AA_e hx]
  clear h hx
  obtain ⟨a, b⟩ := x
  try dsimp only at hpre hQ ⊢
  obtain ⟨ka, kb, hab⟩ := hpre
  have key := for_up (P := fun k => G 2 [(2, vI (nI k)), (0, vR 15 a), (1, vR 15 b)] [] (rI hp b (fun j => if j < k then hp.1 a j else hp.1 b j))) 184 (by
    refine run hG [2] 20 ?_
    refine And.intro (fun h1 => ?_) (fun h1 => absurd (nI_le (Nat.le_refl _) (by omega)) h1)
    refine hQi _ _ _ ?_ hQ
    intro c hc j hj
    refine ⟨?_, rfl⟩
    by_cases hcb : c = b
    · subst hcb
      rw [rI_eq, rI_eq]
      have hl : lenc c = 184 := by unfold lenc; rw [kb]; rfl
      rw [if_pos (by omega)]
    · rw [rI_ne _ _ hcb, rI_ne _ _ hcb]) (by
    intro k hk ih
    refine run hG [2] 20 ?_
    refine And.intro (fun h1 => absurd h1 (nI_ge hk (by omega))) (fun h1 => ?_)
    refine And.intro (vp_in_nI (by omega) (by omega)) ?_
    refine And.intro (vp_in_nI (by omega) (by omega)) ?_
    refine cl_lv hG [(2, vI (nI k + nI 1)), (0, vR 15 a), (1, vR 15 b)] ⟨rfl, rfl, rfl, trivial⟩ ?_
    rw [nI_s, uI_rI, rI_ne _ _ hab, nI_clamp (by omega)]
    have e : upd (fun j => if j < k then hp.1 a j else hp.1 b j) k (hp.1 a k) = (fun j => if j < k + 1 then hp.1 a j else hp.1 b j) := by
      funext j
      rw [upd_at]
      by_cases h2 : j = k
      · subst h2
        rw [if_pos rfl, if_pos (by omega)]
      · rw [if_neg h2]
        by_cases h3 : j < k
        · rw [if_pos h3, if_pos (by omega)]
        · rw [if_neg h3, if_neg (by omega)]
    rw [e]
    exact ih) 0 (by omega)
  refine run hG [2] 20 ?_
  have e : (fun j => if j < 0 then hp.1 a j else hp.1 b j) = hp.1 b := by funext j; rw [if_neg (by omega)]
  rw [e, rI_self] at key
  exact cl_use hG key ⟨rfl, rfl, rfl, trivial⟩
theorem sc_X5_lay {own : String} {F L idx : Nat} (h1 : Cond.methodLink own idx yX5_lay ∈ Gw) (hF : 1 ≤ F) (hL : 22 ≤ L) : SC own F L (idx, true, 2, sp_X5_lay) := SC_S spH_mono c_X5_lay h1 gw_1078 gw_75 gw_1079 (by decide +kernel) hF hL
def sp_X5_draw : SP := spH d_M (fun _ _ => True) (fun _ hp => some (vI (((hp.1 53 1 * 1103515245 + nI 12345).toUInt32 >>> ((nI 8).toUInt32 &&& Int32.toUInt32 31)).toInt32))) (fun _ hp => uI hp 53 1 (hp.1 53 1 * 1103515245 + nI 12345))
def E_X5_draw : EN := []
set_option maxRecDepth 100000 in
set_option maxHeartbeats 4000000 in
theorem c_X5_draw : Ctr M_X5_draw sp_X5_draw := by
  refine ctr_of (own := RX5) M_X5_draw sp_X5_draw (P := P_X5_draw) (K := K_X5) (E := E_X5_draw) (by decide) rfl pk_X5_draw K_X5_ok (fun _ h => absurd h List.not_mem_nil) (fun as hp Q h => by obtain ⟨x, hx, -⟩ := spH_e h; rw [d_M_e hx]; exact Nat.le_of_ble_eq_true rfl) ?_
  intro Q G hQi hG as hp h
  obtain ⟨x, hx, hpre, hQ⟩ := spH_e h
  rw [d_M_e hx]
  clear h hx
  refine run hG [] 40 ?_
  refine And.intro (vp_in_nI (by omega) (by omega)) ?_
  refine And.intro (vp_in_nI (by omega) (by omega)) ?_
  refine And.intro (vp_in_nI (by omega) (by omega)) ?_
  refine q_ih hQ ?_ ?_
  · show (((uI hp 53 (nI 1).toNatClampNeg _).1 53 _).toUInt32 >>> _).toInt32 = _
    rw [uI_r, rI_eq, nI_clamp (by omega), pk_us]
  · rw [nI_clamp (by omega)]
theorem sc_X5_draw {own : String} {F L idx : Nat} (h1 : Cond.methodLink own idx yX5_draw ∈ Gw) (hF : 1 ≤ F) (hL : 20 ≤ L) : SC own F L (idx, false, 1, sp_X5_draw) := SC_V spH_mono c_X5_draw okd_5 (fun as hp K h => by obtain ⟨x, hx, -⟩ := spH_e h; exact ⟨_, _, d_M_e hx⟩) h1 gw_1019 gw_36 gw_75 gw_1020 (by decide +kernel) hF hL
def sp_X5_isWalker : SP := spP d_M_I (fun _ hp => ∃ n, n ≤ 8 ∧ hp.1 53 6 = nI n) (fun x hp => vI (bB (inB x (hp.1 53 6).toNatClampNeg)))
theorem wk_b {v : Int32} {n : Nat} (hn : n ≤ 8) : (decide (nI 0 ≤ v) && decide (v ≤ nI n - nI 1)) = inB v n := by
  cases n with
  | zero =>
    rw [Bool.eq_iff_iff, inB_t, vp_in_iff, Bool.and_eq_true, decide_eq_true_iff, decide_eq_true_iff, Int32.le_iff_toInt_le, Int32.le_iff_toInt_le]
    have : (nI 0 - nI 1).toInt = -1 := by decide
    have h2 : (nI 0).toInt = 0 := by decide
    rw [this, h2]
    omega
  | succ n => rw [show nI (n + 1) - nI 1 = nI n from nI_pred n]; exact in_b (by omega)
def E_X5_isWalker : EN := [(55, true, 3, sp_X5_in)]
set_option maxRecDepth 100000 in
set_option maxHeartbeats 4000000 in
theorem c_X5_isWalker : Ctr M_X5_isWalker sp_X5_isWalker := by
  refine ctr_of (own := RX5) M_X5_isWalker sp_X5_isWalker (P := P_X5_isWalker) (K := K_X5) (E := E_X5_isWalker) (by decide) rfl pk_X5_isWalker K_X5_ok (List.forall_mem_cons.mpr ⟨sc_X5_in gw_883 (by decide) (by decide), fun _ h => absurd h List.not_mem_nil⟩) (fun as hp Q h => by obtain ⟨x, hx, -⟩ := spP_e h; rw [d_M_I_e hx]; exact Nat.le_of_ble_eq_true rfl) ?_
  intro Q G hQi hG as hp h
  obtain ⟨x, hx, hpre, hQ⟩ := spP_e h
  rw [d_M_I_e hx]
  clear h hx
  obtain ⟨n, hn, e⟩ := hpre
  refine run hG [] 40 ?_
  refine And.intro (vp_in_nI (by omega) (by omega)) ?_
  refine And.intro trivial ?_
  refine q_b hQ ?_
  show bB (decide (nI 0 ≤ x) && decide (x ≤ hp.1 53 (nI 6).toNatClampNeg - nI 1)) = _
  rw [nI_clamp (by omega), e, wk_b hn, nI_clamp (by omega)]
theorem sc_X5_isWalker {own : String} {F L idx : Nat} (h1 : Cond.methodLink own idx yX5_isWalker ∈ Gw) (hF : 2 ≤ F) (hL : 43 ≤ L) : SC own F L (idx, false, 2, sp_X5_isWalker) := SC_V spP_mono c_X5_isWalker okd_5 (fun as hp K h => by obtain ⟨x, hx, -⟩ := spP_e h; exact ⟨_, _, d_M_I_e hx⟩) h1 gw_964 gw_28 gw_75 gw_965 (by decide +kernel) hF hL
def sp_X5_beside : SP := spP d_S_II (fun x _ => vp_in x.1 25 ∧ vp_in x.2 4) (fun x _ => vI (bsV x.1.toNatClampNeg x.2.toNatClampNeg))
def E_X5_beside : EN := []
set_option maxRecDepth 100000 in
set_option maxHeartbeats 4000000 in
theorem c_X5_beside : Ctr M_X5_beside sp_X5_beside := by
  refine ctr_of (own := RX5) M_X5_beside sp_X5_beside (P := P_X5_beside) (K := K_X5) (E := E_X5_beside) (by decide) rfl pk_X5_beside K_X5_ok (fun _ h => absurd h List.not_mem_nil) (fun as hp Q h => by obtain ⟨x, hx, -⟩ := spP_e h; rw [d_S_II_e hx]; exact Nat.le_of_ble_eq_true rfl) ?_
  intro Q G hQi hG as hp h
  obtain ⟨x, hx, hpre, hQ⟩ := spP_e h
  rw [d_S_II_e hx]
  clear h hx
  obtain ⟨q, w⟩ := x
  try dsimp only at hpre hQ ⊢
  obtain ⟨hq0, hw0⟩ := hpre
  obtain ⟨q, hq, rfl⟩ := vp_in_of hq0 (by omega)
  obtain ⟨w, hw, rfl⟩ := vp_in_of hw0 (by omega)
  rw [nI_clamp (by omega), nI_clamp (by omega)] at hQ
  refine run hG [] 40 ?_
  have hwi : (nI w).toInt = w := nI_toInt (by omega)
  have fin : ∀ y : Int32, y = bsV q w → Q (some (vI y)) hp := fun y e => e ▸ hQ
  have t0 : ∀ q, q < 25 → nI q - nI 5 = bsV q 0 := by decide +kernel
  have t1 : ∀ q, q < 25 → (nI q - nI q / nI 5 * nI 5 = nI 4 → (-1 : Int32) = bsV q 1) ∧ (¬ nI q - nI q / nI 5 * nI 5 = nI 4 → nI q + nI 1 = bsV q 1) := by decide +kernel
  have t2 : ∀ q, q < 25 → (nI q ≤ nI 19 → nI q + nI 5 = bsV q 2) ∧ (¬ nI q ≤ nI 19 → (-1 : Int32) = bsV q 2) := by decide +kernel
  have t3 : ∀ q, q < 25 → (nI q - nI q / nI 5 * nI 5 = 0 → (-1 : Int32) = bsV q 3) ∧ (¬ nI q - nI q / nI 5 * nI 5 = 0 → nI q - nI 1 = bsV q 3) := by decide +kernel
  refine And.intro (fun h0 => ?_) (And.intro (fun h0 => ?_) (And.intro (fun h0 => ?_) (fun h0 => ?_)))
  · have e : w = 0 := by rw [hwi] at h0; omega
    subst e
    exact fin _ (t0 q hq)
  · have e : w = 1 := by rw [hwi] at h0; omega
    subst e
    refine And.intro (by decide) (And.intro (fun h1 => fin _ ((t1 q hq).2 h1)) (fun h1 => fin _ ((t1 q hq).1 h1)))
  · have e : w = 2 := by rw [hwi] at h0; omega
    subst e
    refine And.intro (fun h1 => fin _ ((t2 q hq).1 h1)) (fun h1 => fin _ ((t2 q hq).2 h1))
  · have e : w = 3 := by rw [hwi] at h0; omega
    subst e
    refine And.intro (by decide) (And.intro (fun h1 => fin _ ((t3 q hq).2 h1)) (fun h1 => fin _ ((t3 q hq).1 h1)))
theorem sc_X5_beside {own : String} {F L idx : Nat} (h1 : Cond.methodLink own idx yX5_beside ∈ Gw) (hF : 1 ≤ F) (hL : 21 ≤ L) : SC own F L (idx, true, 2, sp_X5_beside) := SC_S spP_mono c_X5_beside h1 gw_890 gw_75 gw_891 (by decide +kernel) hF hL
def sp_X5_doorAt : SP := spP d_S_II (fun x _ => vp_in x.1 25 ∧ vp_in x.2 4) (fun x _ => vI (nI (dr x.1.toNatClampNeg x.2.toNatClampNeg)))
def E_X5_doorAt : EN := []
set_option maxRecDepth 100000 in
set_option maxHeartbeats 4000000 in
theorem c_X5_doorAt : Ctr M_X5_doorAt sp_X5_doorAt := by
  refine ctr_of (own := RX5) M_X5_doorAt sp_X5_doorAt (P := P_X5_doorAt) (K := K_X5) (E := E_X5_doorAt) (by decide) rfl pk_X5_doorAt K_X5_ok (fun _ h => absurd h List.not_mem_nil) (fun as hp Q h => by obtain ⟨x, hx, -⟩ := spP_e h; rw [d_S_II_e hx]; exact Nat.le_of_ble_eq_true rfl) ?_
  intro Q G hQi hG as hp h
  obtain ⟨x, hx, hpre, hQ⟩ := spP_e h
  rw [d_S_II_e hx]
  clear h hx
  obtain ⟨q, w⟩ := x
  try dsimp only at hpre hQ ⊢
  obtain ⟨hq0, hw0⟩ := hpre
  obtain ⟨q, hq, rfl⟩ := vp_in_of hq0 (by omega)
  obtain ⟨w, hw, rfl⟩ := vp_in_of hw0 (by omega)
  rw [nI_clamp (by omega), nI_clamp (by omega)] at hQ
  have hwi : (nI w).toInt = w := nI_toInt (by omega)
  have fin : ∀ y : Int32, y = nI (dr q w) → Q (some (vI y)) hp := fun y e => e ▸ hQ
  refine run hG [] 40 ?_
  refine And.intro (fun h0 => ?_) (And.intro (fun h0 => ?_) (And.intro (fun h0 => ?_) (fun h0 => ?_)))
  · have e : w = 0 := by rw [hwi] at h0; omega
    subst e
    exact fin _ (by rw [nI_add, pk_sub (by omega)]; rfl)
  · have e : w = 1 := by rw [hwi] at h0; omega
    subst e
    exact fin _ (by rw [nI_add]; rfl)
  · have e : w = 2 := by rw [hwi] at h0; omega
    subst e
    exact fin _ (by rw [nI_add]; rfl)
  · have e : w = 3 := by rw [hwi] at h0; omega
    subst e
    exact fin _ (by rw [nI_add, pk_sub (by omega)]; rfl)
theorem sc_X5_doorAt {own : String} {F L idx : Nat} (h1 : Cond.methodLink own idx yX5_doorAt ∈ Gw) (hF : 1 ≤ F) (hL : 21 ≤ L) : SC own F L (idx, true, 2, sp_X5_doorAt) := SC_S spP_mono c_X5_doorAt h1 gw_893 gw_75 gw_894 (by decide +kernel) hF hL
def sp_X5_wayTo : SP := spP d_S_II (fun x _ => vp_in x.1 25 ∧ vp_in x.2 25) (fun x _ => vI (wyV x.1.toNatClampNeg x.2.toNatClampNeg))
theorem bsV_eq : ∀ q, q < 25 → ∀ w, w < 4 → ∀ t, t < 25 → (bsV q w = nI t ↔ bsd q w = t) := by decide +kernel
def E_X5_wayTo : EN := [(63, true, 2, sp_X5_beside)]
set_option maxRecDepth 100000 in
set_option maxHeartbeats 4000000 in
theorem c_X5_wayTo : Ctr M_X5_wayTo sp_X5_wayTo := by
  refine ctr_of (own := RX5) M_X5_wayTo sp_X5_wayTo (P := P_X5_wayTo) (K := K_X5) (E := E_X5_wayTo) (by decide) rfl pk_X5_wayTo K_X5_ok (List.forall_mem_cons.mpr ⟨sc_X5_beside gw_889 (by decide) (by decide), fun _ h => absurd h List.not_mem_nil⟩) (fun as hp Q h => by obtain ⟨x, hx, -⟩ := spP_e h; rw [d_S_II_e hx]; exact Nat.le_of_ble_eq_true rfl) ?_
  intro Q G hQi hG as hp h
  obtain ⟨x, hx, hpre, hQ⟩ := spP_e h
  rw [d_S_II_e hx]
  clear h hx
  obtain ⟨a, b⟩ := x
  try dsimp only at hpre hQ ⊢
  obtain ⟨ha0, hb0⟩ := hpre
  obtain ⟨a, ha, rfl⟩ := vp_in_of ha0 (by omega)
  obtain ⟨b, hb, rfl⟩ := vp_in_of hb0 (by omega)
  rw [nI_clamp (by omega), nI_clamp (by omega)] at hQ
  have fin : ∀ y : Int32, y = wyV a b → Q (some (vI y)) hp := fun y e => e ▸ hQ
  have ev : ∀ w, w < 4 → bsV (nI a).toNatClampNeg (nI w).toNatClampNeg = bsV a w := fun w hw => by rw [nI_clamp (by omega), nI_clamp (by omega)]
  have step : ∀ w, w < 4 → (bsd a w = b → nI w = wyV a b) → (bsd a w ≠ b → G 2 [(0, vI (nI a)), (1, vI (nI b)), (2, vI (nI w + (-1)))] [] hp) → G 2 [(0, vI (nI a)), (1, vI (nI b)), (2, vI (nI w))] [] hp := by
    intro w hw h1 h2
    refine run hG [2] 40 ?_
    refine And.intro (fun h => absurd h (nI_pos (by omega))) (fun h => ?_)
    refine And.intro ⟨ha0, vp_in_nI hw (by omega)⟩ ?_
    refine And.intro (fun h3 => ?_) (fun h3 => ?_)
    · refine fin _ (h1 ?_)
      have h3 : bsV (nI a).toNatClampNeg (nI w).toNatClampNeg = nI b := h3
      rw [ev w hw] at h3
      exact (bsV_eq a ha w hw b hb).mp h3
    · refine cl_use hG (h2 ?_) ⟨rfl, rfl, rfl, trivial⟩
      have h3 : ¬ bsV (nI a).toNatClampNeg (nI w).toNatClampNeg = nI b := h3
      rw [ev w hw] at h3
      exact fun h4 => h3 ((bsV_eq a ha w hw b hb).mpr h4)
  refine run hG [2] 40 ?_
  refine cl_lv hG [(0, vI (nI a)), (1, vI (nI b)), (2, vI (nI 3))] ⟨rfl, rfl, rfl, trivial⟩ ?_
  refine step 3 (by omega) (fun h => by simp [wyV, wyt, h]) (fun n3 => ?_)
  rw [pk_m1]
  refine step 2 (by omega) (fun h => by simp [wyV, wyt, h, n3]) (fun n2 => ?_)
  rw [pk_m1]
  refine step 1 (by omega) (fun h => by simp [wyV, wyt, h, n3, n2]) (fun n1 => ?_)
  rw [pk_m1]
  refine step 0 (by omega) (fun h => by simp [wyV, wyt, h, n3, n2, n1]) (fun n0 => ?_)
  refine run hG [2] 40 ?_
  refine And.intro (fun h => ?_) (fun h => absurd (by decide) h)
  exact fin _ (by simp [wyV, wyt, n3, n2, n1, n0]; decide)
theorem sc_X5_wayTo {own : String} {F L idx : Nat} (h1 : Cond.methodLink own idx yX5_wayTo ∈ Gw) (hF : 2 ≤ F) (hL : 43 ≤ L) : SC own F L (idx, true, 2, sp_X5_wayTo) := SC_S spP_mono c_X5_wayTo h1 gw_887 gw_75 gw_888 (by decide +kernel) hF hL
def sp_X5_may : SP := spP d_M_II (fun x _ => vp_in x.1 25 ∧ vp_in x.2 4) (fun x hp => vI (bB (mayB (hp.1 53) x.1.toNatClampNeg x.2.toNatClampNeg)))
def E_X5_may : EN := [(63, true, 2, sp_X5_beside), (66, true, 2, sp_X5_doorAt)]
set_option maxRecDepth 100000 in
set_option maxHeartbeats 4000000 in
theorem c_X5_may : Ctr M_X5_may sp_X5_may := by
  refine ctr_of (own := RX5) M_X5_may sp_X5_may (P := P_X5_may) (K := K_X5) (E := E_X5_may) (by decide) rfl pk_X5_may K_X5_ok (List.forall_mem_cons.mpr ⟨sc_X5_beside gw_889 (by decide) (by decide), List.forall_mem_cons.mpr ⟨sc_X5_doorAt gw_892 (by decide) (by decide), fun _ h => absurd h List.not_mem_nil⟩⟩) (fun as hp Q h => by obtain ⟨x, hx, -⟩ := spP_e h; rw [d_M_II_e hx]; exact Nat.le_of_ble_eq_true rfl) ?_
  intro Q G hQi hG as hp h
  obtain ⟨x, hx, hpre, hQ⟩ := spP_e h
  rw [d_M_II_e hx]
  clear h hx
  obtain ⟨q, w⟩ := x
  try dsimp only at hpre hQ ⊢
  obtain ⟨hq0, hw0⟩ := hpre
  obtain ⟨q, hq, rfl⟩ := vp_in_of hq0 (by omega)
  obtain ⟨w, hw, rfl⟩ := vp_in_of hw0 (by omega)
  rw [nI_clamp (by omega), nI_clamp (by omega)] at hQ
  have ev : bsV (nI q).toNatClampNeg (nI w).toNatClampNeg = bsV q w := by rw [nI_clamp (by omega), nI_clamp (by omega)]
  have ed : dr (nI q).toNatClampNeg (nI w).toNatClampNeg = dr q w := by rw [nI_clamp (by omega), nI_clamp (by omega)]
  refine run hG [] 40 ?_
  refine And.intro ⟨hq0, hw0⟩ ?_
  refine And.intro (fun h => ?_) (fun h => ?_)
  · have h : bsV (nI q).toNatClampNeg (nI w).toNatClampNeg < 0 := h
    rw [ev, bsV_neg q hq w hw] at h
    exact q_b hQ (by simp [mayB, h, bB, nI])
  · have h : ¬ bsV (nI q).toNatClampNeg (nI w).toNatClampNeg < 0 := h
    rw [ev, bsV_neg q hq w hw] at h
    refine And.intro ⟨hq0, hw0⟩ ?_
    refine And.intro ?_ ?_
    · show vp_in (nI (dr (nI q).toNatClampNeg (nI w).toNatClampNeg)) 184
      rw [ed]
      exact vp_in_nI (dr_lt hq) (by omega)
    · have el : (nI (dr (nI q).toNatClampNeg (nI w).toNatClampNeg)).toNatClampNeg = dr q w := by rw [ed]; exact nI_clamp (by have := dr_lt (w := w) hq; omega)
      refine And.intro (fun h2 => ?_) (fun h2 => ?_)
      · have h2 : ¬ hp.1 53 (nI (dr (nI q).toNatClampNeg (nI w).toNatClampNeg)).toNatClampNeg = 0 := h2
        rw [el] at h2
        exact q_b hQ (by simp [mayB, h2, bB, nI])
      · have h2 : hp.1 53 (nI (dr (nI q).toNatClampNeg (nI w).toNatClampNeg)).toNatClampNeg = 0 := h2
        rw [el] at h2
        exact q_b hQ (by simp [mayB, h, h2, bB, nI])
theorem sc_X5_may {own : String} {F L idx : Nat} (h1 : Cond.methodLink own idx yX5_may ∈ Gw) (hF : 2 ≤ F) (hL : 43 ≤ L) : SC own F L (idx, false, 3, sp_X5_may) := SC_V spP_mono c_X5_may okd_5 (fun as hp K h => by obtain ⟨x, hx, -⟩ := spP_e h; exact ⟨_, _, d_M_II_e hx⟩) h1 gw_972 gw_30 gw_75 gw_973 (by decide +kernel) hF hL
end
section
def noP (hp : HP) (k : Nat) : Int32 × HP := (-1000000001 - nI k, uI hp 57 (nI k).toNatClampNeg (hp.1 57 (nI k).toNatClampNeg + nI 1))
theorem q_F {Q : QP} {p : Int32 × HP} {y : Int32} {hq : HP} (h : Q (some (vI p.1)) p.2) (e : p = (y, hq)) : Q (some (vI y)) hq := by
  subst e
  exact h
def many (f : Nat → Int32) : Prop := ∃ n, n ≤ 8 ∧ f 6 = nI n
def wkOK (f : Nat → Int32) (w : Nat) : Prop := vp_in (f (144 + 5 * w)) 6 ∧ vp_in (f (144 + 5 * w + 1)) 25 ∧ vp_in (f (144 + 5 * w + 2)) 25 ∧ vp_in (f (144 + 5 * w + 3)) 4 ∧ vp_in (f (144 + 5 * w + 4)) 2
def WF (f : Nat → Int32) : Prop := (∃ n, n ≤ 8 ∧ f 6 = nI n ∧ ∀ w, w < n → wkOK f w) ∧ (∀ k, 44 ≤ k → k < 144 → vp_in (f k) 2) ∧ ∃ r, r ≤ 12 ∧ f 5 = nI r ∧ (∀ k, k < r → vp_in (f (7 + k)) 25) ∧ (r = 0 ∨ f 4 = -1 ∨ vp_in (f 4) r)
theorem WF.many {f : Nat → Int32} (h : WF f) : many f := by
  obtain ⟨⟨n, hn, e, -⟩, -⟩ := h
  exact ⟨n, hn, e⟩
theorem WF.wk {f : Nat → Int32} (h : WF f) {w : Nat} (hw : w < (f 6).toNatClampNeg) : wkOK f w := by
  obtain ⟨⟨n, hn, e, h1⟩, -⟩ := h
  rw [e, nI_clamp (by omega)] at hw
  exact h1 w hw
def doN (a b : Int32) : Nat := if inB a 25 = true ∧ inB b 25 = true ∧ wyt a.toNatClampNeg b.toNatClampNeg < 4 then dr a.toNatClampNeg (wyt a.toNatClampNeg b.toNatClampNeg) else 999
theorem wyt_le (a b : Nat) : wyt a b ≤ 4 := by
  unfold wyt
  split
  · omega
  · split
    · omega
    · split
      · omega
      · split <;> omega
theorem doN_lt (a b : Int32) : doN a b = 999 ∨ doN a b < 184 := by
  unfold doN
  split
  · next h =>
    obtain ⟨a2, ha, e⟩ := vp_in_of (inB_t.mp h.1) (by omega)
    refine Or.inr ?_
    rw [e, nI_clamp (by omega)]
    exact dr_lt ha
  · exact Or.inl rfl
def sp_X5_doorOf : SP := spP d_M_II (fun _ _ => True) (fun x _ => vI (if doN x.1 x.2 = 999 then -1 else nI (doN x.1 x.2)))
def E_X5_doorOf : EN := [(69, true, 1, sp_X5_isSquare), (73, true, 2, sp_X5_wayTo), (66, true, 2, sp_X5_doorAt)]
set_option maxRecDepth 100000 in
set_option maxHeartbeats 4000000 in
theorem c_X5_doorOf : Ctr M_X5_doorOf sp_X5_doorOf := by
  refine ctr_of (own := RX5) M_X5_doorOf sp_X5_doorOf (P := P_X5_doorOf) (K := K_X5) (E := E_X5_doorOf) (by decide) rfl pk_X5_doorOf K_X5_ok (List.forall_mem_cons.mpr ⟨sc_X5_isSquare gw_880 (by decide) (by decide), List.forall_mem_cons.mpr ⟨sc_X5_wayTo gw_886 (by decide) (by decide), List.forall_mem_cons.mpr ⟨sc_X5_doorAt gw_892 (by decide) (by decide), fun _ h => absurd h List.not_mem_nil⟩⟩⟩) (fun as hp Q h => by obtain ⟨x, hx, -⟩ := spP_e h; rw [d_M_II_e hx]; exact Nat.le_of_ble_eq_true rfl) ?_
  intro Q G hQi hG as hp h
  obtain ⟨x, hx, hpre, hQ⟩ := spP_e h
  rw [d_M_II_e hx]
  clear h hx
  obtain ⟨a, b⟩ := x
  try dsimp only at hpre hQ ⊢
  have fin : ∀ y : Int32, y = (if doN a b = 999 then -1 else nI (doN a b)) → Q (some (vI y)) hp := fun y e => e ▸ hQ
  refine run hG [] 60 ?_
  refine And.intro trivial ?_
  refine And.intro (fun h1 => ?_) (fun h1 => ?_)
  · have h1 : inB a 25 = false := bB_0.mp h1
    refine And.intro (fun h => absurd h (by decide)) (fun h => fin _ ?_)
    simp [doN, h1]
  · have h1 : inB a 25 = true := bB_1.mp h1
    refine And.intro trivial ?_
    refine And.intro (fun h2 => ?_) (fun h2 => ?_)
    · have h2 : inB b 25 = false := bB_0.mp h2
      refine And.intro (fun h => absurd h (by decide)) (fun h => fin _ ?_)
      simp [doN, h2]
    · have h2 : inB b 25 = true := bB_1.mp h2
      refine And.intro ⟨inB_t.mp h1, inB_t.mp h2⟩ ?_
      obtain ⟨n, hn, ea⟩ := vp_in_of (inB_t.mp h1) (by omega)
      have el : a.toNatClampNeg = n := by rw [ea, nI_clamp (by omega)]
      have hw := wyt_le a.toNatClampNeg b.toNatClampNeg
      refine And.intro (fun h => ?_) (fun h => ?_)
      · have h : 0 ≤ wyV a.toNatClampNeg b.toNatClampNeg := h
        have h3 : wyt a.toNatClampNeg b.toNatClampNeg ≠ 4 := by
          intro h4
          unfold wyV at h
          rw [if_pos h4] at h
          exact absurd h (by decide)
        have ew : wyV a.toNatClampNeg b.toNatClampNeg = nI (wyt a.toNatClampNeg b.toNatClampNeg) := by unfold wyV; rw [if_neg h3]
        refine And.intro ⟨inB_t.mp h1, ?_⟩ (fin _ ?_)
        · show vp_in (wyV a.toNatClampNeg b.toNatClampNeg) 4
          rw [ew]
          exact vp_in_nI (by omega) (by omega)
        · show nI (dr a.toNatClampNeg (wyV a.toNatClampNeg b.toNatClampNeg).toNatClampNeg) = _
          rw [ew, nI_clamp (by omega)]
          have hd := dr_lt (q := a.toNatClampNeg) (w := wyt a.toNatClampNeg b.toNatClampNeg) (by omega)
          have e9 : doN a b = dr a.toNatClampNeg (wyt a.toNatClampNeg b.toNatClampNeg) := by
            unfold doN
            rw [if_pos ⟨h1, h2, by omega⟩]
          rw [e9, if_neg (by omega)]
      · have h : ¬ 0 ≤ wyV a.toNatClampNeg b.toNatClampNeg := h
        have h3 : wyt a.toNatClampNeg b.toNatClampNeg = 4 := by
          false_or_by_contra
          rename_i h4
          apply h
          unfold wyV
          rw [if_neg h4]
          exact nI_pos' (by omega)
        refine fin _ ?_
        have e9 : doN a b = 999 := by
          unfold doN
          rw [if_neg (by omega)]
        rw [e9, if_pos rfl]
theorem sc_X5_doorOf {own : String} {F L idx : Nat} (h1 : Cond.methodLink own idx yX5_doorOf ∈ Gw) (hF : 3 ≤ F) (hL : 66 ≤ L) : SC own F L (idx, false, 3, sp_X5_doorOf) := SC_V spP_mono c_X5_doorOf okd_5 (fun as hp K h => by obtain ⟨x, hx, -⟩ := spP_e h; exact ⟨_, _, d_M_II_e hx⟩) h1 gw_878 gw_21 gw_75 gw_879 (by decide +kernel) hF hL
def opV (o : Int32) : Int32 := if o = 0 then nI 1 else nI 0
def neV (x y : Int32) : Int32 := if x = y then nI 0 else nI 1
def F_door (a b o : Int32) (hp : HP) : Int32 × HP := if doN a b = 999 then noP hp 0 else (neV (hp.1 53 (doN a b)) (opV o), uI hp 53 (doN a b) (opV o))
def sp_X5_door : SP := spH d_M_III (fun _ _ => True) (fun x hp => some (vI (F_door x.1 x.2.1 x.2.2 hp).1)) (fun x hp => (F_door x.1 x.2.1 x.2.2 hp).2)
theorem dv_neg {a b : Int32} : (0 ≤ (if doN a b = 999 then (-1 : Int32) else nI (doN a b))) ↔ doN a b ≠ 999 := by
  rcases doN_lt a b with h | h
  · rw [if_pos h]
    exact ⟨fun h2 => absurd h2 (by decide), fun h2 => absurd h h2⟩
  · rw [if_neg (by omega)]
    exact ⟨fun _ => by omega, fun _ => nI_pos' (by omega)⟩
def E_X5_door : EN := [(76, false, 3, sp_X5_doorOf), (79, false, 2, sp_X5_no), (83, false, 3, sp_X5_puts)]
set_option maxRecDepth 100000 in
set_option maxHeartbeats 4000000 in
theorem c_X5_door : Ctr M_X5_door sp_X5_door := by
  refine ctr_of (own := RX5) M_X5_door sp_X5_door (P := P_X5_door) (K := K_X5) (E := E_X5_door) (by decide) rfl pk_X5_door K_X5_ok (List.forall_mem_cons.mpr ⟨sc_X5_doorOf gw_876 (by decide) (by decide), List.forall_mem_cons.mpr ⟨sc_X5_no gw_895 (by decide) (by decide), List.forall_mem_cons.mpr ⟨sc_X5_puts gw_900 (by decide) (by decide), fun _ h => absurd h List.not_mem_nil⟩⟩⟩) (fun as hp Q h => by obtain ⟨x, hx, -⟩ := spH_e h; rw [d_M_III_e hx]; exact Nat.le_of_ble_eq_true rfl) ?_
  intro Q G hQi hG as hp h
  obtain ⟨x, hx, hpre, hQ⟩ := spH_e h
  rw [d_M_III_e hx]
  clear h hx
  obtain ⟨a, b, o⟩ := x
  try dsimp only at hpre hQ ⊢
  refine run hG [] 60 ?_
  refine And.intro trivial ?_
  refine And.intro (fun h1 => ?_) (fun h1 => ?_)
  · have h1 : doN a b ≠ 999 := dv_neg.mp h1
    have hlt : doN a b < 184 := by rcases doN_lt a b with h | h <;> omega
    have ev : (if doN a b = 999 then (-1 : Int32) else nI (doN a b)) = nI (doN a b) := if_neg h1
    have hF : F_door a b o hp = (neV (hp.1 53 (doN a b)) (opV o), uI hp 53 (doN a b) (opV o)) := if_neg h1
    rw [hF] at hQ
    have hin : vp_in (if doN a b = 999 then (-1 : Int32) else nI (doN a b)) 184 := by rw [ev]; exact vp_in_nI hlt (by omega)
    refine And.intro (fun h2 => ?_) (fun h2 => ?_)
    · have eo : opV o = nI 1 := if_pos h2
      rw [eo] at hQ
      refine And.intro hin ?_
      refine And.intro (fun h3 => ?_) (fun h3 => ?_)
      · have h3 : ¬ hp.1 53 (if doN a b = 999 then (-1 : Int32) else nI (doN a b)).toNatClampNeg = nI 1 := h3
        refine q_ih hQ ?_ ?_
        · rw [ev, nI_clamp (by omega)] at h3
          unfold neV
          rw [if_neg h3]
        · dsimp only
          rw [ev, nI_clamp (by omega)]
      · have h3 : hp.1 53 (if doN a b = 999 then (-1 : Int32) else nI (doN a b)).toNatClampNeg = nI 1 := h3
        refine q_ih hQ ?_ ?_
        · rw [ev, nI_clamp (by omega)] at h3
          unfold neV
          rw [if_pos h3]
        · dsimp only
          rw [ev, nI_clamp (by omega)]
    · have eo : opV o = nI 0 := if_neg h2
      rw [eo] at hQ
      refine And.intro hin ?_
      refine And.intro (fun h3 => ?_) (fun h3 => ?_)
      · have h3 : ¬ hp.1 53 (if doN a b = 999 then (-1 : Int32) else nI (doN a b)).toNatClampNeg = nI 0 := h3
        refine q_ih hQ ?_ ?_
        · rw [ev, nI_clamp (by omega)] at h3
          unfold neV
          rw [if_neg h3]
        · dsimp only
          rw [ev, nI_clamp (by omega)]
      · have h3 : hp.1 53 (if doN a b = 999 then (-1 : Int32) else nI (doN a b)).toNatClampNeg = nI 0 := h3
        refine q_ih hQ ?_ ?_
        · rw [ev, nI_clamp (by omega)] at h3
          unfold neV
          rw [if_pos h3]
        · dsimp only
          rw [ev, nI_clamp (by omega)]
  · have h1 : doN a b = 999 := by
      false_or_by_contra
      rename_i h2
      exact h1 (dv_neg.mpr h2)
    have hF : F_door a b o hp = noP hp 0 := if_pos h1
    rw [hF] at hQ
    refine And.intro (vp_in_nI (by omega) (by omega)) ?_
    exact hQ
theorem sc_X5_door {own : String} {F L idx : Nat} (h1 : Cond.methodLink own idx yX5_door ∈ Gw) (hF : 4 ≤ F) (hL : 91 ≤ L) : SC own F L (idx, false, 4, sp_X5_door) := SC_V spH_mono c_X5_door okd_5 (fun as hp K h => by obtain ⟨x, hx, -⟩ := spH_e h; exact ⟨_, _, d_M_III_e hx⟩) h1 gw_873 gw_874 gw_75 gw_875 (by decide +kernel) hF hL
def F_isOpen (a b : Int32) (hp : HP) : Int32 × HP := if doN a b = 999 then noP hp 0 else (nI 1 - hp.1 53 (doN a b), hp)
def sp_X5_isOpen : SP := spH d_M_II (fun _ _ => True) (fun x hp => some (vI (F_isOpen x.1 x.2 hp).1)) (fun x hp => (F_isOpen x.1 x.2 hp).2)
def E_X5_isOpen : EN := [(76, false, 3, sp_X5_doorOf), (79, false, 2, sp_X5_no)]
set_option maxRecDepth 100000 in
set_option maxHeartbeats 4000000 in
theorem c_X5_isOpen : Ctr M_X5_isOpen sp_X5_isOpen := by
  refine ctr_of (own := RX5) M_X5_isOpen sp_X5_isOpen (P := P_X5_isOpen) (K := K_X5) (E := E_X5_isOpen) (by decide) rfl pk_X5_isOpen K_X5_ok (List.forall_mem_cons.mpr ⟨sc_X5_doorOf gw_876 (by decide) (by decide), List.forall_mem_cons.mpr ⟨sc_X5_no gw_895 (by decide) (by decide), fun _ h => absurd h List.not_mem_nil⟩⟩) (fun as hp Q h => by obtain ⟨x, hx, -⟩ := spH_e h; rw [d_M_II_e hx]; exact Nat.le_of_ble_eq_true rfl) ?_
  intro Q G hQi hG as hp h
  obtain ⟨x, hx, hpre, hQ⟩ := spH_e h
  rw [d_M_II_e hx]
  clear h hx
  obtain ⟨a, b⟩ := x
  try dsimp only at hpre hQ ⊢
  refine run hG [] 60 ?_
  refine And.intro trivial ?_
  refine And.intro (fun h1 => ?_) (fun h1 => ?_)
  · have h1 : doN a b ≠ 999 := dv_neg.mp h1
    have hlt : doN a b < 184 := by rcases doN_lt a b with h | h <;> omega
    have ev : (if doN a b = 999 then (-1 : Int32) else nI (doN a b)) = nI (doN a b) := if_neg h1
    have hF : F_isOpen a b hp = (nI 1 - hp.1 53 (doN a b), hp) := if_neg h1
    rw [hF] at hQ
    refine And.intro ?_ (q_i hQ ?_)
    · show vp_in (if doN a b = 999 then (-1 : Int32) else nI (doN a b)) 184
      rw [ev]
      exact vp_in_nI hlt (by omega)
    · show nI 1 - hp.1 53 (if doN a b = 999 then (-1 : Int32) else nI (doN a b)).toNatClampNeg = _
      rw [ev, nI_clamp (by omega)]
  · have h1 : doN a b = 999 := by
      false_or_by_contra
      rename_i h2
      exact h1 (dv_neg.mpr h2)
    have hF : F_isOpen a b hp = noP hp 0 := if_pos h1
    rw [hF] at hQ
    refine And.intro (vp_in_nI (by omega) (by omega)) ?_
    exact hQ
theorem sc_X5_isOpen {own : String} {F L idx : Nat} (h1 : Cond.methodLink own idx yX5_isOpen ∈ Gw) (hF : 4 ≤ F) (hL : 89 ≤ L) : SC own F L (idx, false, 3, sp_X5_isOpen) := SC_V spH_mono c_X5_isOpen okd_5 (fun as hp K h => by obtain ⟨x, hx, -⟩ := spH_e h; exact ⟨_, _, d_M_II_e hx⟩) h1 gw_905 gw_906 gw_75 gw_907 (by decide +kernel) hF hL
def F_height (q v : Int32) (hp : HP) : Int32 × HP := if inB q 25 = true ∧ inB v 10 = true then (hp.1 53 (19 + q.toNatClampNeg), uI hp 53 (19 + q.toNatClampNeg) v) else noP hp 0
def sp_X5_height : SP := spH d_M_II (fun _ _ => True) (fun x hp => some (vI (F_height x.1 x.2 hp).1)) (fun x hp => (F_height x.1 x.2 hp).2)
theorem ix_lt {x : Int32} {n : Nat} (h : vp_in x n) : x.toNatClampNeg < n := by
  have := (not_or.mp h).2
  omega
theorem ix_nI {x : Int32} {n : Nat} (h : vp_in x n) (hn : n < 2 ^ 31) : x = nI x.toNatClampNeg := by
  obtain ⟨j, hj, e⟩ := vp_in_of h hn
  rw [e, nI_clamp (by omega)]
theorem add_ix {k n : Nat} {x : Int32} (h : vp_in x n) (hn : k + n < 2 ^ 31) : (nI k + x).toNatClampNeg = k + x.toNatClampNeg ∧ ∀ N, k + n ≤ N → vp_in (nI k + x) N := by
  obtain ⟨j, hj, rfl⟩ := vp_in_of h (by omega)
  rw [nI_add, nI_clamp (by omega), nI_clamp (by omega)]
  refine ⟨rfl, fun N hN => ?_⟩
  unfold vp_in
  rw [nI_clamp (by omega)]
  exact not_or.mpr ⟨nI_pos (by omega), by omega⟩
def E_X5_height : EN := [(69, true, 1, sp_X5_isSquare), (55, true, 3, sp_X5_in), (83, false, 3, sp_X5_puts), (79, false, 2, sp_X5_no)]
set_option maxRecDepth 100000 in
set_option maxHeartbeats 4000000 in
theorem c_X5_height : Ctr M_X5_height sp_X5_height := by
  refine ctr_of (own := RX5) M_X5_height sp_X5_height (P := P_X5_height) (K := K_X5) (E := E_X5_height) (by decide) rfl pk_X5_height K_X5_ok (List.forall_mem_cons.mpr ⟨sc_X5_isSquare gw_880 (by decide) (by decide), List.forall_mem_cons.mpr ⟨sc_X5_in gw_883 (by decide) (by decide), List.forall_mem_cons.mpr ⟨sc_X5_puts gw_900 (by decide) (by decide), List.forall_mem_cons.mpr ⟨sc_X5_no gw_895 (by decide) (by decide), fun _ h => absurd h List.not_mem_nil⟩⟩⟩⟩) (fun as hp Q h => by obtain ⟨x, hx, -⟩ := spH_e h; rw [d_M_II_e hx]; exact Nat.le_of_ble_eq_true rfl) ?_
  intro Q G hQi hG as hp h
  obtain ⟨x, hx, hpre, hQ⟩ := spH_e h
  rw [d_M_II_e hx]
  clear h hx
  obtain ⟨q, v⟩ := x
  try dsimp only at hpre hQ ⊢
  have ib : (decide (nI 0 ≤ v) && decide (v ≤ nI 9)) = inB v 10 := in_b (by omega)
  have no : ¬ (inB q 25 = true ∧ inB v 10 = true) → Q (some (vI (noP hp 0).1)) (noP hp 0).2 := fun h => by
    have hF : F_height q v hp = noP hp 0 := if_neg h
    rw [hF] at hQ
    exact hQ
  refine run hG [] 60 ?_
  refine And.intro trivial ?_
  refine And.intro (fun h1 => ?_) (fun h1 => ?_)
  · refine And.intro (vp_in_nI (by omega) (by omega)) (no (fun h => ?_))
    rw [bB_0.mp h1] at h
    exact absurd h.1 (by decide)
  · refine And.intro trivial ?_
    refine And.intro (fun h2 => ?_) (fun h2 => ?_)
    · refine And.intro (vp_in_nI (by omega) (by omega)) (no (fun h => ?_))
      rw [← ib, bB_0.mp h2] at h
      exact absurd h.2 (by decide)
    · have h1 : inB q 25 = true := bB_1.mp h1
      have h2 : inB v 10 = true := ib ▸ bB_1.mp h2
      have hF : F_height q v hp = _ := if_pos ⟨h1, h2⟩
      rw [hF] at hQ
      have ha := add_ix (k := 19) (inB_t.mp h1) (by omega)
      refine And.intro (ha.2 184 (by omega)) (q_ih hQ ?_ ?_)
      · show hp.1 53 (nI 19 + q).toNatClampNeg = _
        rw [ha.1]
      · dsimp only
        rw [ha.1]
theorem sc_X5_height {own : String} {F L idx : Nat} (h1 : Cond.methodLink own idx yX5_height ∈ Gw) (hF : 3 ≤ F) (hL : 64 ≤ L) : SC own F L (idx, false, 3, sp_X5_height) := SC_V spH_mono c_X5_height okd_5 (fun as hp K h => by obtain ⟨x, hx, -⟩ := spH_e h; exact ⟨_, _, d_M_II_e hx⟩) h1 gw_909 gw_910 gw_75 gw_911 (by decide +kernel) hF hL
end
section
def onV (i : Int32) : Int32 := if i = 0 then nI 0 else nI 1
def mkN (q w : Int32) : Nat := (if w = 0 then 44 else 69) + q.toNatClampNeg
def F_mark (q w i : Int32) (hp : HP) : Int32 × HP := if inB q 25 = true ∧ inB w 2 = true then (neV (hp.1 53 (mkN q w)) (onV i), uI hp 53 (mkN q w) (onV i)) else noP hp 0
def sp_X5_mark : SP := spH d_M_III (fun _ _ => True) (fun x hp => some (vI (F_mark x.1 x.2.1 x.2.2 hp).1)) (fun x hp => (F_mark x.1 x.2.1 x.2.2 hp).2)
def E_X5_mark : EN := [(69, true, 1, sp_X5_isSquare), (55, true, 3, sp_X5_in), (79, false, 2, sp_X5_no), (83, false, 3, sp_X5_puts)]
set_option maxRecDepth 100000 in
set_option maxHeartbeats 4000000 in
theorem c_X5_mark : Ctr M_X5_mark sp_X5_mark := by
  refine ctr_of (own := RX5) M_X5_mark sp_X5_mark (P := P_X5_mark) (K := K_X5) (E := E_X5_mark) (by decide) rfl pk_X5_mark K_X5_ok (List.forall_mem_cons.mpr ⟨sc_X5_isSquare gw_880 (by decide) (by decide), List.forall_mem_cons.mpr ⟨sc_X5_in gw_883 (by decide) (by decide), List.forall_mem_cons.mpr ⟨sc_X5_no gw_895 (by decide) (by decide), List.forall_mem_cons.mpr ⟨sc_X5_puts gw_900 (by decide) (by decide), fun _ h => absurd h List.not_mem_nil⟩⟩⟩⟩) (fun as hp Q h => by obtain ⟨x, hx, -⟩ := spH_e h; rw [d_M_III_e hx]; exact Nat.le_of_ble_eq_true rfl) ?_
  intro Q G hQi hG as hp h
  obtain ⟨x, hx, hpre, hQ⟩ := spH_e h
  rw [d_M_III_e hx]
  clear h hx
  obtain ⟨q, w, i⟩ := x
  try dsimp only at hpre hQ ⊢
  have ib : (decide (nI 0 ≤ w) && decide (w ≤ nI 1)) = inB w 2 := in_b (by omega)
  have no : ¬ (inB q 25 = true ∧ inB w 2 = true) → Q (some (vI (noP hp 0).1)) (noP hp 0).2 := fun h => by
    have hF : F_mark q w i hp = noP hp 0 := if_neg h
    rw [hF] at hQ
    exact hQ
  refine run hG [22] 60 ?_
  refine And.intro trivial ?_
  refine And.intro (fun h1 => ?_) (fun h1 => ?_)
  · refine And.intro (vp_in_nI (by omega) (by omega)) (no (fun h => ?_))
    rw [bB_0.mp h1] at h
    exact absurd h.1 (by decide)
  · refine And.intro trivial ?_
    refine And.intro (fun h2 => ?_) (fun h2 => ?_)
    · have h1 : inB q 25 = true := bB_1.mp h1
      have h2 : inB w 2 = true := ib ▸ bB_1.mp h2
      have hF : F_mark q w i hp = _ := if_pos ⟨h1, h2⟩
      rw [hF] at hQ
      have key : ∀ v, v = onV i → G 31 [(0, vR 5 52), (1, vI q), (2, vI w)] [vI v] hp := by
        intro v hv
        rw [← hv] at hQ
        refine run hG [] 60 ?_
        have last : ∀ k, (if w = 0 then 44 else 69) = k → k < 100 → (vp_in (nI k + q) 184 ∧ (¬ hp.1 53 (nI k + q).toNatClampNeg = v → Q (some (vI (nI 1))) (uI hp 53 (nI k + q).toNatClampNeg v)) ∧ (hp.1 53 (nI k + q).toNatClampNeg = v → Q (some (vI (nI 0))) (uI hp 53 (nI k + q).toNatClampNeg v))) := by
          intro k hk hk2
          have ha := add_ix (k := k) (inB_t.mp h1) (by omega)
          have em : mkN q w = k + q.toNatClampNeg := by unfold mkN; rw [hk]
          rw [em] at hQ
          rw [ha.1]
          refine ⟨ha.2 184 (by omega), fun h3 => ?_, fun h3 => ?_⟩
          · unfold neV at hQ
            rw [if_neg h3] at hQ
            exact hQ
          · unfold neV at hQ
            rw [if_pos h3] at hQ
            exact hQ
        refine And.intro (fun h3 => ?_) (fun h3 => ?_)
        · exact last 69 (if_neg h3) (by omega)
        · exact last 44 (if_pos h3) (by omega)
      refine run hG [31] 60 ?_
      refine And.intro (fun h3 => ?_) (fun h3 => ?_)
      · exact cl_use hG (key _ (if_pos h3).symm) ⟨rfl, rfl, rfl, trivial⟩
      · exact cl_use hG (key _ (if_neg h3).symm) ⟨rfl, rfl, rfl, trivial⟩
    · refine And.intro (vp_in_nI (by omega) (by omega)) (no (fun h => ?_))
      rw [← ib, show (decide (nI 0 ≤ w) && decide (w ≤ nI 1)) = false from bB_0.mp h2] at h
      exact absurd h.2 (by decide)
theorem sc_X5_mark {own : String} {F L idx : Nat} (h1 : Cond.methodLink own idx yX5_mark ∈ Gw) (hF : 3 ≤ F) (hL : 66 ≤ L) : SC own F L (idx, false, 4, sp_X5_mark) := SC_V spH_mono c_X5_mark okd_5 (fun as hp K h => by obtain ⟨x, hx, -⟩ := spH_e h; exact ⟨_, _, d_M_III_e hx⟩) h1 gw_913 gw_914 gw_75 gw_915 (by decide +kernel) hF hL
def wsG (f : Nat → Int32) (q : Int32) (w : Nat) (s : Int32) : Int32 := s ||| (if f (144 + 5 * w + 2) = q then nI 1 <<< (nI w &&& 31) else nI 0)
def wsA (f : Nat → Int32) (q : Int32) : Int32 := fold (wsG f q) (nI 0) (f 6).toNatClampNeg
def sp_X5_walkersAt : SP := spP d_M_I (fun _ hp => many (hp.1 53)) (fun x hp => vI (wsA (hp.1 53) x))
def E_X5_walkersAt : EN := [(59, false, 3, sp_X5_has)]
set_option maxRecDepth 100000 in
set_option maxHeartbeats 4000000 in
theorem c_X5_walkersAt : Ctr M_X5_walkersAt sp_X5_walkersAt := by
  refine ctr_of (own := RX5) M_X5_walkersAt sp_X5_walkersAt (P := P_X5_walkersAt) (K := K_X5) (E := E_X5_walkersAt) (by decide) rfl pk_X5_walkersAt K_X5_ok (List.forall_mem_cons.mpr ⟨sc_X5_has gw_924 (by decide) (by decide), fun _ h => absurd h List.not_mem_nil⟩) (fun as hp Q h => by obtain ⟨x, hx, -⟩ := spP_e h; rw [d_M_I_e hx]; exact Nat.le_of_ble_eq_true rfl) ?_
  intro Q G hQi hG as hp h
  obtain ⟨x, hx, hpre, hQ⟩ := spP_e h
  rw [d_M_I_e hx]
  clear h hx
  obtain ⟨n, hn, e6⟩ := hpre
  have eA : wsA (hp.1 53) x = fold (wsG (hp.1 53) x) (nI 0) n := by unfold wsA; rw [e6, nI_clamp (by omega)]
  rw [eA] at hQ
  have e62 : hp.1 53 (nI 6).toNatClampNeg = nI n := e6
  have key := for_up (P := fun k => G 4 [(3, vI (nI k)), (2, vI (fold (wsG (hp.1 53) x) (nI 0) k)), (0, vR 5 52), (1, vI x)] [] hp) n (by
    refine run hG [4] 60 ?_
    refine And.intro (vp_in_nI (by omega) (by omega)) ?_
    refine And.intro (fun h1 => hQ) (fun h1 => absurd ?_ h1)
    show hp.1 53 (nI 6).toNatClampNeg ≤ nI n
    rw [e62]
    exact nI_le (Nat.le_refl _) (by omega)) (by
    intro k hk ih
    refine run hG [4] 60 ?_
    refine And.intro (vp_in_nI (by omega) (by omega)) ?_
    refine And.intro (fun h1 => absurd ?_ (nI_ge hk (by omega))) (fun h1 => ?_)
    · have h1 : hp.1 53 (nI 6).toNatClampNeg ≤ nI k := h1
      rw [e62] at h1
      exact h1
    refine And.intro ⟨vp_in_nI (by omega) (by omega), vp_in_nI (by omega) (by omega)⟩ ?_
    have ei : 144 + 5 * (nI k).toNatClampNeg + (nI 2).toNatClampNeg = 144 + 5 * k + 2 := by rw [nI_clamp (by omega), nI_clamp (by omega)]
    refine And.intro (fun h2 => ?_) (fun h2 => ?_)
    · have h2 : ¬ hp.1 53 (144 + 5 * (nI k).toNatClampNeg + (nI 2).toNatClampNeg) = x := h2
      rw [ei] at h2
      refine cl_lv hG [(3, vI (nI k + nI 1)), (2, vI (fold (wsG (hp.1 53) x) (nI 0) k ||| nI 0)), (0, vR 5 52), (1, vI x)] ⟨rfl, rfl, rfl, rfl, trivial⟩ ?_
      rw [nI_s]
      have ef : fold (wsG (hp.1 53) x) (nI 0) (k + 1) = fold (wsG (hp.1 53) x) (nI 0) k ||| nI 0 := by
        show wsG (hp.1 53) x k _ = _
        unfold wsG
        rw [if_neg h2]
      rw [← ef]
      exact ih
    · have h2 : hp.1 53 (144 + 5 * (nI k).toNatClampNeg + (nI 2).toNatClampNeg) = x := h2
      rw [ei] at h2
      refine cl_lv hG [(3, vI (nI k + nI 1)), (2, vI (fold (wsG (hp.1 53) x) (nI 0) k ||| nI 1 <<< (nI k &&& 31))), (0, vR 5 52), (1, vI x)] ⟨rfl, rfl, rfl, rfl, trivial⟩ ?_
      rw [nI_s]
      have ef : fold (wsG (hp.1 53) x) (nI 0) (k + 1) = fold (wsG (hp.1 53) x) (nI 0) k ||| nI 1 <<< (nI k &&& 31) := by
        show wsG (hp.1 53) x k _ = _
        unfold wsG
        rw [if_pos h2]
      rw [← ef]
      exact ih) 0 (by omega)
  refine run hG [4] 60 ?_
  exact cl_use hG key ⟨rfl, rfl, rfl, rfl, trivial⟩
theorem sc_X5_walkersAt {own : String} {F L idx : Nat} (h1 : Cond.methodLink own idx yX5_walkersAt ∈ Gw) (hF : 2 ≤ F) (hL : 45 ≤ L) : SC own F L (idx, false, 2, sp_X5_walkersAt) := SC_V spP_mono c_X5_walkersAt okd_5 (fun as hp K h => by obtain ⟨x, hx, -⟩ := spP_e h; exact ⟨_, _, d_M_I_e hx⟩) h1 gw_922 gw_24 gw_75 gw_923 (by decide +kernel) hF hL
def sqV (f : Nat → Int32) (q w : Int32) : Int32 := if w = 0 then f (19 + q.toNatClampNeg) else if w = nI 1 then f (44 + q.toNatClampNeg) else if w = nI 2 then f (69 + q.toNatClampNeg) else wsA f q
def F_squareOf (q w : Int32) (hp : HP) : Int32 × HP := if inB q 25 = true ∧ inB w 4 = true then (sqV (hp.1 53) q w, hp) else noP hp 0
def sp_X5_squareOf : SP := spH d_M_II (fun _ hp => many (hp.1 53)) (fun x hp => some (vI (F_squareOf x.1 x.2 hp).1)) (fun x hp => (F_squareOf x.1 x.2 hp).2)
def E_X5_squareOf : EN := [(69, true, 1, sp_X5_isSquare), (55, true, 3, sp_X5_in), (79, false, 2, sp_X5_no), (86, false, 2, sp_X5_walkersAt)]
set_option maxRecDepth 100000 in
set_option maxHeartbeats 4000000 in
theorem c_X5_squareOf : Ctr M_X5_squareOf sp_X5_squareOf := by
  refine ctr_of (own := RX5) M_X5_squareOf sp_X5_squareOf (P := P_X5_squareOf) (K := K_X5) (E := E_X5_squareOf) (by decide) rfl pk_X5_squareOf K_X5_ok (List.forall_mem_cons.mpr ⟨sc_X5_isSquare gw_880 (by decide) (by decide), List.forall_mem_cons.mpr ⟨sc_X5_in gw_883 (by decide) (by decide), List.forall_mem_cons.mpr ⟨sc_X5_no gw_895 (by decide) (by decide), List.forall_mem_cons.mpr ⟨sc_X5_walkersAt gw_920 (by decide) (by decide), fun _ h => absurd h List.not_mem_nil⟩⟩⟩⟩) (fun as hp Q h => by obtain ⟨x, hx, -⟩ := spH_e h; rw [d_M_II_e hx]; exact Nat.le_of_ble_eq_true rfl) ?_
  intro Q G hQi hG as hp h
  obtain ⟨x, hx, hpre, hQ⟩ := spH_e h
  rw [d_M_II_e hx]
  clear h hx
  obtain ⟨q, w⟩ := x
  try dsimp only at hpre hQ ⊢
  have ib : (decide (nI 0 ≤ w) && decide (w ≤ nI 3)) = inB w 4 := in_b (by omega)
  have no : ¬ (inB q 25 = true ∧ inB w 4 = true) → Q (some (vI (noP hp 0).1)) (noP hp 0).2 := fun h => by
    have hF : F_squareOf q w hp = noP hp 0 := if_neg h
    rw [hF] at hQ
    exact hQ
  refine run hG [] 60 ?_
  refine And.intro trivial ?_
  refine And.intro (fun h1 => ?_) (fun h1 => ?_)
  · refine And.intro (vp_in_nI (by omega) (by omega)) (no (fun h => ?_))
    rw [bB_0.mp h1] at h
    exact absurd h.1 (by decide)
  · refine And.intro trivial ?_
    refine And.intro (fun h2 => ?_) (fun h2 => ?_)
    · have h1 : inB q 25 = true := bB_1.mp h1
      have h2 : inB w 4 = true := ib ▸ bB_1.mp h2
      have hF : F_squareOf q w hp = _ := if_pos ⟨h1, h2⟩
      rw [hF] at hQ
      have ha := fun k (hk : k < 100) => add_ix (k := k) (inB_t.mp h1) (by omega)
      unfold sqV at hQ
      refine And.intro (fun h3 => ?_) (fun h3 => ?_)
      · rw [if_neg h3] at hQ
        refine And.intro (fun h4 => ?_) (fun h4 => ?_)
        · rw [if_neg h4] at hQ
          refine And.intro (fun h5 => ?_) (fun h5 => ?_)
          · rw [if_neg h5] at hQ
            exact And.intro hpre hQ
          · rw [if_pos h5, ← (ha 69 (by omega)).1] at hQ
            exact And.intro ((ha 69 (by omega)).2 184 (by omega)) hQ
        · rw [if_pos h4, ← (ha 44 (by omega)).1] at hQ
          exact And.intro ((ha 44 (by omega)).2 184 (by omega)) hQ
      · rw [if_pos h3, ← (ha 19 (by omega)).1] at hQ
        exact And.intro ((ha 19 (by omega)).2 184 (by omega)) hQ
    · refine And.intro (vp_in_nI (by omega) (by omega)) (no (fun h => ?_))
      rw [← ib, show (decide (nI 0 ≤ w) && decide (w ≤ nI 3)) = false from bB_0.mp h2] at h
      exact absurd h.2 (by decide)
theorem sc_X5_squareOf {own : String} {F L idx : Nat} (h1 : Cond.methodLink own idx yX5_squareOf ∈ Gw) (hF : 3 ≤ F) (hL : 67 ≤ L) : SC own F L (idx, false, 3, sp_X5_squareOf) := SC_V spH_mono c_X5_squareOf okd_5 (fun as hp K h => by obtain ⟨x, hx, -⟩ := spH_e h; exact ⟨_, _, d_M_II_e hx⟩) h1 gw_917 gw_918 gw_75 gw_919 (by decide +kernel) hF hL
def F_moon (v : Int32) (hp : HP) : Int32 × HP := if inB v 5 = true then (hp.1 53 (nI 2).toNatClampNeg, uI hp 53 (nI 2).toNatClampNeg v) else noP hp 0
def sp_X5_moon : SP := spH d_M_I (fun _ _ => True) (fun x hp => some (vI (F_moon x hp).1)) (fun x hp => (F_moon x hp).2)
def E_X5_moon : EN := [(55, true, 3, sp_X5_in), (83, false, 3, sp_X5_puts), (79, false, 2, sp_X5_no)]
set_option maxRecDepth 100000 in
set_option maxHeartbeats 4000000 in
theorem c_X5_moon : Ctr M_X5_moon sp_X5_moon := by
  refine ctr_of (own := RX5) M_X5_moon sp_X5_moon (P := P_X5_moon) (K := K_X5) (E := E_X5_moon) (by decide) rfl pk_X5_moon K_X5_ok (List.forall_mem_cons.mpr ⟨sc_X5_in gw_883 (by decide) (by decide), List.forall_mem_cons.mpr ⟨sc_X5_puts gw_900 (by decide) (by decide), List.forall_mem_cons.mpr ⟨sc_X5_no gw_895 (by decide) (by decide), fun _ h => absurd h List.not_mem_nil⟩⟩⟩) (fun as hp Q h => by obtain ⟨x, hx, -⟩ := spH_e h; rw [d_M_I_e hx]; exact Nat.le_of_ble_eq_true rfl) ?_
  intro Q G hQi hG as hp h
  obtain ⟨x, hx, hpre, hQ⟩ := spH_e h
  rw [d_M_I_e hx]
  clear h hx
  have ib : (decide (nI 0 ≤ x) && decide (x ≤ nI 4)) = inB x 5 := in_b (by omega)
  refine run hG [] 60 ?_
  refine And.intro trivial ?_
  refine And.intro (fun h1 => ?_) (fun h1 => ?_)
  · have h1 : inB x 5 = false := ib ▸ bB_0.mp h1
    have hF : F_moon x hp = noP hp 0 := if_neg (by rw [h1]; decide)
    rw [hF] at hQ
    exact And.intro (vp_in_nI (by omega) (by omega)) hQ
  · have h1 : inB x 5 = true := ib ▸ bB_1.mp h1
    have hF : F_moon x hp = _ := if_pos h1
    rw [hF] at hQ
    exact And.intro (vp_in_nI (by omega) (by omega)) hQ
theorem sc_X5_moon {own : String} {F L idx : Nat} (h1 : Cond.methodLink own idx yX5_moon ∈ Gw) (hF : 2 ≤ F) (hL : 44 ≤ L) : SC own F L (idx, false, 2, sp_X5_moon) := SC_V spH_mono c_X5_moon okd_5 (fun as hp K h => by obtain ⟨x, hx, -⟩ := spH_e h; exact ⟨_, _, d_M_I_e hx⟩) h1 gw_929 gw_930 gw_75 gw_931 (by decide +kernel) hF hL
def rnd (f : Nat → Int32) : Prop := ∃ r, r ≤ 12 ∧ f 5 = nI r
def F_round (q : Int32) (hp : HP) : Int32 × HP := if inB q 25 = true then (if hp.1 53 5 = nI 12 then noP hp 1 else (hp.1 53 5 + nI 1, rI hp 53 (upd (upd (hp.1 53) (7 + (hp.1 53 5).toNatClampNeg) q) 5 (hp.1 53 5 + nI 1)))) else noP hp 0
def sp_X5_round : SP := spH d_M_I (fun _ hp => rnd (hp.1 53)) (fun x hp => some (vI (F_round x hp).1)) (fun x hp => (F_round x hp).2)
def E_X5_round : EN := [(69, true, 1, sp_X5_isSquare), (79, false, 2, sp_X5_no)]
set_option maxRecDepth 100000 in
set_option maxHeartbeats 4000000 in
theorem c_X5_round : Ctr M_X5_round sp_X5_round := by
  refine ctr_of (own := RX5) M_X5_round sp_X5_round (P := P_X5_round) (K := K_X5) (E := E_X5_round) (by decide) rfl pk_X5_round K_X5_ok (List.forall_mem_cons.mpr ⟨sc_X5_isSquare gw_880 (by decide) (by decide), List.forall_mem_cons.mpr ⟨sc_X5_no gw_895 (by decide) (by decide), fun _ h => absurd h List.not_mem_nil⟩⟩) (fun as hp Q h => by obtain ⟨x, hx, -⟩ := spH_e h; rw [d_M_I_e hx]; exact Nat.le_of_ble_eq_true rfl) ?_
  intro Q G hQi hG as hp h
  obtain ⟨x, hx, hpre, hQ⟩ := spH_e h
  rw [d_M_I_e hx]
  clear h hx
  obtain ⟨r, hr, e5⟩ := hpre
  have c5 : (nI 5).toNatClampNeg = 5 := rfl
  refine run hG [] 80 ?_
  refine And.intro trivial ?_
  refine And.intro (fun h1 => ?_) (fun h1 => ?_)
  · have h1 : inB x 25 = true := bB_1.mp h1
    have hF : F_round x hp = _ := if_pos h1
    rw [hF] at hQ
    refine And.intro (vp_in_nI (by omega) (by omega)) ?_
    refine And.intro (fun h2 => ?_) (fun h2 => ?_)
    · have h2 : ¬ hp.1 53 5 = nI 12 := h2
      rw [if_neg h2] at hQ
      have hr2 : r < 12 := by
        rcases Nat.lt_or_ge r 12 with h | h
        · exact h
        · exact absurd (by rw [e5, show r = 12 by omega]) h2
      rw [e5, nI_clamp (by omega)] at hQ
      have ei : (nI 7 + hp.1 53 5) = nI (7 + r) := by rw [e5, nI_add]
      refine And.intro (vp_in_nI (by omega) (by omega)) ?_
      refine And.intro (show vp_in (nI 7 + hp.1 53 5) 184 by rw [ei]; exact vp_in_nI (by omega) (by omega)) ?_
      refine And.intro (vp_in_nI (by omega) (by omega)) ?_
      refine And.intro (vp_in_nI (by omega) (by omega)) ?_
      refine And.intro (vp_in_nI (by omega) (by omega)) ?_
      have h0 : uI (uI hp 53 (nI 7 + hp.1 53 5).toNatClampNeg x) 53 5 ((uI hp 53 (nI 7 + hp.1 53 5).toNatClampNeg x).1 53 5 + nI 1) = rI hp 53 (upd (upd (hp.1 53) (7 + r) x) 5 (nI r + nI 1)) := by
        rw [ei, nI_clamp (by omega), uI_r hp, uI_rI, rI_eq, pk_un (by omega), e5]
      refine q_ih hQ ?_ h0
      show (uI (uI hp 53 (nI 7 + hp.1 53 5).toNatClampNeg x) 53 5 ((uI hp 53 (nI 7 + hp.1 53 5).toNatClampNeg x).1 53 5 + nI 1)).1 53 5 = _
      rw [h0, rI_eq, pk_us]
    · have h2 : hp.1 53 5 = nI 12 := h2
      rw [if_pos h2] at hQ
      exact And.intro (vp_in_nI (by omega) (by omega)) hQ
  · have h1 : inB x 25 = false := bB_0.mp h1
    have hF : F_round x hp = noP hp 0 := if_neg (by rw [h1]; decide)
    rw [hF] at hQ
    exact And.intro (vp_in_nI (by omega) (by omega)) hQ
theorem sc_X5_round {own : String} {F L idx : Nat} (h1 : Cond.methodLink own idx yX5_round ∈ Gw) (hF : 3 ≤ F) (hL : 63 ≤ L) : SC own F L (idx, false, 2, sp_X5_round) := SC_V spH_mono c_X5_round okd_5 (fun as hp K h => by obtain ⟨x, hx, -⟩ := spH_e h; exact ⟨_, _, d_M_I_e hx⟩) h1 gw_933 gw_934 gw_75 gw_935 (by decide +kernel) hF hL
def rstF (f : Nat → Int32) : Nat → Int32 := upd (upd f 4 (-1)) 5 (nI 0)
def sp_X5_rest : SP := spH d_M (fun _ _ => True) (fun _ hp => some (vI (hp.1 53 5))) (fun _ hp => rI hp 53 (rstF (hp.1 53)))
def E_X5_rest : EN := [(83, false, 3, sp_X5_puts)]
set_option maxRecDepth 100000 in
set_option maxHeartbeats 4000000 in
theorem c_X5_rest : Ctr M_X5_rest sp_X5_rest := by
  refine ctr_of (own := RX5) M_X5_rest sp_X5_rest (P := P_X5_rest) (K := K_X5) (E := E_X5_rest) (by decide) rfl pk_X5_rest K_X5_ok (List.forall_mem_cons.mpr ⟨sc_X5_puts gw_900 (by decide) (by decide), fun _ h => absurd h List.not_mem_nil⟩) (fun as hp Q h => by obtain ⟨x, hx, -⟩ := spH_e h; rw [d_M_e hx]; exact Nat.le_of_ble_eq_true rfl) ?_
  intro Q G hQi hG as hp h
  obtain ⟨x, hx, hpre, hQ⟩ := spH_e h
  rw [d_M_e hx]
  clear h hx
  refine run hG [] 80 ?_
  refine And.intro (vp_in_nI (by omega) (by omega)) ?_
  refine And.intro (vp_in_nI (by omega) (by omega)) ?_
  refine q_ih hQ ?_ ?_
  · show (uI hp 53 4 (-1)).1 53 5 = _
    rw [uI_r, rI_eq, pk_un (by omega)]
  · show uI (uI hp 53 4 (-1)) 53 5 (nI 0) = _
    rw [uI_r hp, uI_rI]
    rfl
theorem sc_X5_rest {own : String} {F L idx : Nat} (h1 : Cond.methodLink own idx yX5_rest ∈ Gw) (hF : 2 ≤ F) (hL : 43 ≤ L) : SC own F L (idx, false, 1, sp_X5_rest) := SC_V spH_mono c_X5_rest okd_5 (fun as hp K h => by obtain ⟨x, hx, -⟩ := spH_e h; exact ⟨_, _, d_M_e hx⟩) h1 gw_937 gw_938 gw_75 gw_939 (by decide +kernel) hF hL
end
section
def addF (f : Nat → Int32) (k q w : Int32) : Nat → Int32 := upd (upd (upd (upd (upd (upd f 6 (f 6 + nI 1)) (144 + 5 * (f 6).toNatClampNeg + 0) k) (144 + 5 * (f 6).toNatClampNeg + 1) q) (144 + 5 * (f 6).toNatClampNeg + 2) q) (144 + 5 * (f 6).toNatClampNeg + 3) w) (144 + 5 * (f 6).toNatClampNeg + 4) (nI 0)
def sp_X5_adds : SP := spH d_M_III (fun _ hp => ∃ n, n < 8 ∧ hp.1 53 6 = nI n) (fun _ _ => none) (fun x hp => rI hp 53 (addF (hp.1 53) x.1 x.2.1 x.2.2))
def E_X5_adds : EN := [(89, false, 4, sp_X5_gets)]
set_option maxRecDepth 100000 in
set_option maxHeartbeats 4000000 in
theorem c_X5_adds : Ctr M_X5_adds sp_X5_adds := by
  refine ctr_of (own := RX5) M_X5_adds sp_X5_adds (P := P_X5_adds) (K := K_X5) (E := E_X5_adds) (by decide) rfl pk_X5_adds K_X5_ok (List.forall_mem_cons.mpr ⟨sc_X5_gets gw_954 (by decide) (by decide), fun _ h => absurd h List.not_mem_nil⟩) (fun as hp Q h => by obtain ⟨x, hx, -⟩ := spH_e h; rw [d_M_III_e hx]; exact Nat.le_of_ble_eq_true rfl) ?_
  intro Q G hQi hG as hp h
  obtain ⟨x, hx, hpre, hQ⟩ := spH_e h
  rw [d_M_III_e hx]
  clear h hx
  obtain ⟨k, q, w⟩ := x
  try dsimp only at hpre hQ ⊢
  obtain ⟨n, hn, e6⟩ := hpre
  refine run hG [] 80 ?_
  refine And.intro (vp_in_nI (by omega) (by omega)) ?_
  refine And.intro (vp_in_nI (by omega) (by omega)) ?_
  refine And.intro (vp_in_nI (by omega) (by omega)) ?_
  have e62 : hp.1 53 (nI 6).toNatClampNeg = nI n := e6
  have hin : vp_in (hp.1 53 (nI 6).toNatClampNeg) 8 := by rw [e62]; exact vp_in_nI hn (by omega)
  refine And.intro ⟨hin, vp_in_nI (by omega) (by omega)⟩ ?_
  refine And.intro ⟨hin, vp_in_nI (by omega) (by omega)⟩ ?_
  refine And.intro ⟨hin, vp_in_nI (by omega) (by omega)⟩ ?_
  refine And.intro ⟨hin, vp_in_nI (by omega) (by omega)⟩ ?_
  refine And.intro ⟨hin, vp_in_nI (by omega) (by omega)⟩ ?_
  refine q_n hQ ?_
  dsimp only
  rw [uI_r hp, uI_rI, uI_rI, uI_rI, uI_rI, uI_rI]
  rfl
theorem sc_X5_adds {own : String} {F L idx : Nat} (h1 : Cond.methodLink own idx yX5_adds ∈ Gw) (hF : 3 ≤ F) (hL : 70 ≤ L) : SC own F L (idx, false, 4, sp_X5_adds) := SC_V spH_mono c_X5_adds okd_5 (fun as hp K h => by obtain ⟨x, hx, -⟩ := spH_e h; exact ⟨_, _, d_M_III_e hx⟩) h1 gw_952 gw_26 gw_75 gw_953 (by decide +kernel) hF hL
def F_walker (k q w : Int32) (hp : HP) : Int32 × HP := if inB k 6 = true ∧ inB q 25 = true ∧ inB w 4 = true then (if hp.1 53 6 = nI 8 then noP hp 1 else (hp.1 53 6, rI hp 53 (addF (hp.1 53) k q w))) else noP hp 0
def sp_X5_walker : SP := spH d_M_III (fun _ hp => many (hp.1 53)) (fun x hp => some (vI (F_walker x.1 x.2.1 x.2.2 hp).1)) (fun x hp => (F_walker x.1 x.2.1 x.2.2 hp).2)
theorem add6 {f : Nat → Int32} {k q w : Int32} {n : Nat} (e : f 6 = nI n) (hn : n < 8) : addF f k q w 6 = nI (n + 1) := by
  unfold addF
  rw [e, nI_clamp (by omega), pk_un (by omega), pk_un (by omega), pk_un (by omega), pk_un (by omega), pk_un (by omega), pk_us, nI_s]
def E_X5_walker : EN := [(93, true, 1, sp_X5_isKind), (69, true, 1, sp_X5_isSquare), (96, true, 1, sp_X5_isWay), (79, false, 2, sp_X5_no), (99, false, 4, sp_X5_adds)]
set_option maxRecDepth 100000 in
set_option maxHeartbeats 4000000 in
theorem c_X5_walker : Ctr M_X5_walker sp_X5_walker := by
  refine ctr_of (own := RX5) M_X5_walker sp_X5_walker (P := P_X5_walker) (K := K_X5) (E := E_X5_walker) (by decide) rfl pk_X5_walker K_X5_ok (List.forall_mem_cons.mpr ⟨sc_X5_isKind gw_944 (by decide) (by decide), List.forall_mem_cons.mpr ⟨sc_X5_isSquare gw_880 (by decide) (by decide), List.forall_mem_cons.mpr ⟨sc_X5_isWay gw_947 (by decide) (by decide), List.forall_mem_cons.mpr ⟨sc_X5_no gw_895 (by decide) (by decide), List.forall_mem_cons.mpr ⟨sc_X5_adds gw_950 (by decide) (by decide), fun _ h => absurd h List.not_mem_nil⟩⟩⟩⟩⟩) (fun as hp Q h => by obtain ⟨x, hx, -⟩ := spH_e h; rw [d_M_III_e hx]; exact Nat.le_of_ble_eq_true rfl) ?_
  intro Q G hQi hG as hp h
  obtain ⟨x, hx, hpre, hQ⟩ := spH_e h
  rw [d_M_III_e hx]
  clear h hx
  obtain ⟨k, q, w⟩ := x
  try dsimp only at hpre hQ ⊢
  obtain ⟨n, hn, e6⟩ := hpre
  have no : ¬ (inB k 6 = true ∧ inB q 25 = true ∧ inB w 4 = true) → Q (some (vI (noP hp 0).1)) (noP hp 0).2 := fun h => by
    have hF : F_walker k q w hp = noP hp 0 := if_neg h
    rw [hF] at hQ
    exact hQ
  refine run hG [] 80 ?_
  refine And.intro trivial ?_
  refine And.intro (fun h1 => ?_) (fun h1 => ?_)
  · refine And.intro (vp_in_nI (by omega) (by omega)) (no (fun h => ?_))
    rw [bB_0.mp h1] at h
    exact absurd h.1 (by decide)
  · refine And.intro trivial ?_
    refine And.intro (fun h2 => ?_) (fun h2 => ?_)
    · refine And.intro (vp_in_nI (by omega) (by omega)) (no (fun h => ?_))
      rw [bB_0.mp h2] at h
      exact absurd h.2.1 (by decide)
    · refine And.intro trivial ?_
      refine And.intro (fun h3 => ?_) (fun h3 => ?_)
      · have hF : F_walker k q w hp = _ := if_pos ⟨bB_1.mp h1, bB_1.mp h2, bB_1.mp h3⟩
        rw [hF] at hQ
        refine And.intro (vp_in_nI (by omega) (by omega)) ?_
        refine And.intro (fun h4 => ?_) (fun h4 => ?_)
        · have h4 : ¬ hp.1 53 6 = nI 8 := h4
          rw [if_neg h4] at hQ
          have hn2 : n < 8 := by
            rcases Nat.lt_or_ge n 8 with h | h
            · exact h
            · exact absurd (by rw [e6, show n = 8 by omega]) h4
          refine And.intro ⟨n, hn2, e6⟩ ?_
          refine And.intro (vp_in_nI (by omega) (by omega)) ?_
          refine q_i hQ ?_
          show (rI hp 53 (addF (hp.1 53) k q w)).1 53 6 - nI 1 = _
          rw [rI_eq, add6 e6 hn2, e6]
          exact nI_pred n
        · have h4 : hp.1 53 6 = nI 8 := h4
          rw [if_pos h4] at hQ
          exact And.intro (vp_in_nI (by omega) (by omega)) hQ
      · refine And.intro (vp_in_nI (by omega) (by omega)) (no (fun h => ?_))
        rw [bB_0.mp h3] at h
        exact absurd h.2.2 (by decide)
theorem sc_X5_walker {own : String} {F L idx : Nat} (h1 : Cond.methodLink own idx yX5_walker ∈ Gw) (hF : 4 ≤ F) (hL : 93 ≤ L) : SC own F L (idx, false, 4, sp_X5_walker) := SC_V spH_mono c_X5_walker okd_5 (fun as hp K h => by obtain ⟨x, hx, -⟩ := spH_e h; exact ⟨_, _, d_M_III_e hx⟩) h1 gw_941 gw_942 gw_75 gw_943 (by decide +kernel) hF hL
def waysG (c : Nat → Bool) (w : Nat) (s : Int32) : Int32 := s ||| (if c w = true then nI 1 <<< (nI w &&& 31) else nI 0)
def waysC (c : Nat → Bool) : Int32 := fold (waysG c) (nI 0) 4
def sp_X5_waysFrom : SP := spP d_M_I (fun x _ => vp_in x 25) (fun x hp => vI (waysC (mayB (hp.1 53) x.toNatClampNeg)))
def E_X5_waysFrom : EN := [(103, false, 3, sp_X5_may)]
set_option maxRecDepth 100000 in
set_option maxHeartbeats 4000000 in
theorem c_X5_waysFrom : Ctr M_X5_waysFrom sp_X5_waysFrom := by
  refine ctr_of (own := RX5) M_X5_waysFrom sp_X5_waysFrom (P := P_X5_waysFrom) (K := K_X5) (E := E_X5_waysFrom) (by decide) rfl pk_X5_waysFrom K_X5_ok (List.forall_mem_cons.mpr ⟨sc_X5_may gw_970 (by decide) (by decide), fun _ h => absurd h List.not_mem_nil⟩) (fun as hp Q h => by obtain ⟨x, hx, -⟩ := spP_e h; rw [d_M_I_e hx]; exact Nat.le_of_ble_eq_true rfl) ?_
  intro Q G hQi hG as hp h
  obtain ⟨x, hx, hpre, hQ⟩ := spP_e h
  rw [d_M_I_e hx]
  clear h hx
  have key := for_up (P := fun k => G 4 [(3, vI (nI k)), (2, vI (fold (waysG (mayB (hp.1 53) x.toNatClampNeg)) (nI 0) k)), (0, vR 5 52), (1, vI x)] [] hp) 4 (by
    refine run hG [4] 60 ?_
    exact And.intro (fun h1 => hQ) (fun h1 => absurd (nI_le (Nat.le_refl _) (by omega)) h1)) (by
    intro k hk ih
    refine run hG [4] 60 ?_
    refine And.intro (fun h1 => absurd h1 (nI_ge hk (by omega))) (fun h1 => ?_)
    refine And.intro ⟨hpre, vp_in_nI (by omega) (by omega)⟩ ?_
    have ek : (nI k).toNatClampNeg = k := nI_clamp (by omega)
    refine And.intro (fun h2 => ?_) (fun h2 => ?_)
    · have h2 : mayB (hp.1 53) x.toNatClampNeg (nI k).toNatClampNeg = false := bB_0.mp h2
      rw [ek] at h2
      refine cl_lv hG [(3, vI (nI k + nI 1)), (2, vI (fold (waysG (mayB (hp.1 53) x.toNatClampNeg)) (nI 0) k ||| nI 0)), (0, vR 5 52), (1, vI x)] ⟨rfl, rfl, rfl, rfl, trivial⟩ ?_
      rw [nI_s]
      have ef : fold (waysG (mayB (hp.1 53) x.toNatClampNeg)) (nI 0) (k + 1) = fold (waysG (mayB (hp.1 53) x.toNatClampNeg)) (nI 0) k ||| nI 0 := by
        show waysG _ k _ = _
        unfold waysG
        rw [h2, if_neg (by decide)]
      rw [← ef]
      exact ih
    · have h2 : mayB (hp.1 53) x.toNatClampNeg (nI k).toNatClampNeg = true := bB_1.mp h2
      rw [ek] at h2
      refine cl_lv hG [(3, vI (nI k + nI 1)), (2, vI (fold (waysG (mayB (hp.1 53) x.toNatClampNeg)) (nI 0) k ||| nI 1 <<< (nI k &&& 31))), (0, vR 5 52), (1, vI x)] ⟨rfl, rfl, rfl, rfl, trivial⟩ ?_
      rw [nI_s]
      have ef : fold (waysG (mayB (hp.1 53) x.toNatClampNeg)) (nI 0) (k + 1) = fold (waysG (mayB (hp.1 53) x.toNatClampNeg)) (nI 0) k ||| nI 1 <<< (nI k &&& 31) := by
        show waysG _ k _ = _
        unfold waysG
        rw [h2, if_pos rfl]
      rw [← ef]
      exact ih) 0 (by omega)
  refine run hG [4] 60 ?_
  exact cl_use hG key ⟨rfl, rfl, rfl, rfl, trivial⟩
theorem sc_X5_waysFrom {own : String} {F L idx : Nat} (h1 : Cond.methodLink own idx yX5_waysFrom ∈ Gw) (hF : 3 ≤ F) (hL : 66 ≤ L) : SC own F L (idx, false, 2, sp_X5_waysFrom) := SC_V spP_mono c_X5_waysFrom okd_5 (fun as hp K h => by obtain ⟨x, hx, -⟩ := spP_e h; exact ⟨_, _, d_M_I_e hx⟩) h1 gw_968 gw_29 gw_75 gw_969 (by decide +kernel) hF hL
def mN (f : Nat → Int32) : Nat := (f 6).toNatClampNeg
def wx (w : Int32) (k : Nat) : Nat := 144 + 5 * w.toNatClampNeg + k
def ofV (f : Nat → Int32) (w k : Int32) : Int32 := if k = nI 5 then waysC (mayB f (f (wx w 2)).toNatClampNeg) else f (wx w k.toNatClampNeg)
def F_of (w k : Int32) (hp : HP) : Int32 × HP := if inB w (mN (hp.1 53)) = true ∧ inB k 6 = true then (ofV (hp.1 53) w k, hp) else noP hp 0
theorem in8 {f : Nat → Int32} {w : Int32} (h : many f) (hw : inB w (mN f) = true) : vp_in w 8 := by
  obtain ⟨n, hn, e⟩ := h
  unfold mN at hw
  rw [e, nI_clamp (by omega)] at hw
  have := vp_in_iff.mp (inB_t.mp hw)
  exact vp_in_iff.mpr (by omega)
def sp_X5_of : SP := spH d_M_II (fun _ hp => WF (hp.1 53)) (fun x hp => some (vI (F_of x.1 x.2 hp).1)) (fun x hp => (F_of x.1 x.2 hp).2)
def E_X5_of : EN := [(107, false, 2, sp_X5_isWalker), (55, true, 3, sp_X5_in), (79, false, 2, sp_X5_no), (59, false, 3, sp_X5_has), (110, false, 2, sp_X5_waysFrom)]
set_option maxRecDepth 100000 in
set_option maxHeartbeats 4000000 in
theorem c_X5_of : Ctr M_X5_of sp_X5_of := by
  refine ctr_of (own := RX5) M_X5_of sp_X5_of (P := P_X5_of) (K := K_X5) (E := E_X5_of) (by decide) rfl pk_X5_of K_X5_ok (List.forall_mem_cons.mpr ⟨sc_X5_isWalker gw_962 (by decide) (by decide), List.forall_mem_cons.mpr ⟨sc_X5_in gw_883 (by decide) (by decide), List.forall_mem_cons.mpr ⟨sc_X5_no gw_895 (by decide) (by decide), List.forall_mem_cons.mpr ⟨sc_X5_has gw_924 (by decide) (by decide), List.forall_mem_cons.mpr ⟨sc_X5_waysFrom gw_966 (by decide) (by decide), fun _ h => absurd h List.not_mem_nil⟩⟩⟩⟩⟩) (fun as hp Q h => by obtain ⟨x, hx, -⟩ := spH_e h; rw [d_M_II_e hx]; exact Nat.le_of_ble_eq_true rfl) ?_
  intro Q G hQi hG as hp h
  obtain ⟨x, hx, hpre, hQ⟩ := spH_e h
  rw [d_M_II_e hx]
  clear h hx
  obtain ⟨w, k⟩ := x
  try dsimp only at hpre hQ ⊢
  have hm := hpre.many
  have ib : (decide (nI 0 ≤ k) && decide (k ≤ nI 5)) = inB k 6 := in_b (by omega)
  have no : ¬ (inB w (mN (hp.1 53)) = true ∧ inB k 6 = true) → Q (some (vI (noP hp 0).1)) (noP hp 0).2 := fun h => by
    have hF : F_of w k hp = noP hp 0 := if_neg h
    rw [hF] at hQ
    exact hQ
  refine run hG [] 80 ?_
  refine And.intro hm ?_
  refine And.intro (fun h1 => ?_) (fun h1 => ?_)
  · refine And.intro (vp_in_nI (by omega) (by omega)) (no (fun h => ?_))
    rw [show inB w (mN (hp.1 53)) = false from bB_0.mp h1] at h
    exact absurd h.1 (by decide)
  · refine And.intro trivial ?_
    have h1 : inB w (mN (hp.1 53)) = true := bB_1.mp h1
    have hw8 := in8 hm h1
    refine And.intro (fun h2 => ?_) (fun h2 => ?_)
    · have h2 : inB k 6 = true := ib ▸ bB_1.mp h2
      have hF : F_of w k hp = _ := if_pos ⟨h1, h2⟩
      rw [hF] at hQ
      unfold ofV at hQ
      refine And.intro (fun h3 => ?_) (fun h3 => ?_)
      · rw [if_neg h3] at hQ
        have hk5 : vp_in k 5 := by
          obtain ⟨j, hj, ej⟩ := vp_in_of (inB_t.mp h2) (by omega)
          rw [ej] at h3 ⊢
          exact vp_in_nI (by rcases Nat.lt_or_ge j 5 with h | h; exact h; exact absurd (by rw [show j = 5 by omega]) h3) (by omega)
        exact And.intro ⟨hw8, hk5⟩ hQ
      · rw [if_pos h3] at hQ
        refine And.intro ⟨hw8, vp_in_nI (by omega) (by omega)⟩ ?_
        have hk := (hpre.wk (ix_lt (inB_t.mp h1))).2.2.1
        exact And.intro hk hQ
    · refine And.intro (vp_in_nI (by omega) (by omega)) (no (fun h => ?_))
      rw [← ib, show (decide (nI 0 ≤ k) && decide (k ≤ nI 5)) = false from bB_0.mp h2] at h
      exact absurd h.2 (by decide)
theorem sc_X5_of {own : String} {F L idx : Nat} (h1 : Cond.methodLink own idx yX5_of ∈ Gw) (hF : 4 ≤ F) (hL : 88 ≤ L) : SC own F L (idx, false, 3, sp_X5_of) := SC_V spH_mono c_X5_of okd_5 (fun as hp K h => by obtain ⟨x, hx, -⟩ := spH_e h; exact ⟨_, _, d_M_II_e hx⟩) h1 gw_959 gw_960 gw_75 gw_961 (by decide +kernel) hF hL
def F_set (w k v : Int32) (hp : HP) : Int32 × HP := if inB w (mN (hp.1 53)) = true ∧ (nI 1 ≤ k ∧ k ≤ nI 3) ∧ inB v (if k = nI 3 then 4 else 25) = true then (hp.1 53 (wx w k.toNatClampNeg), uI hp 53 (wx w k.toNatClampNeg) v) else noP hp 0
def sp_X5_set : SP := spH d_M_III (fun _ hp => many (hp.1 53)) (fun x hp => some (vI (F_set x.1 x.2.1 x.2.2 hp).1)) (fun x hp => (F_set x.1 x.2.1 x.2.2 hp).2)
theorem in13 {k : Int32} (h : nI 1 ≤ k ∧ k ≤ nI 3) : vp_in k 5 := by
  rw [Int32.le_iff_toInt_le, Int32.le_iff_toInt_le, nI_toInt (by omega), nI_toInt (by omega)] at h
  exact vp_in_iff.mpr (by omega)
def E_X5_set : EN := [(107, false, 2, sp_X5_isWalker), (55, true, 3, sp_X5_in), (96, true, 1, sp_X5_isWay), (69, true, 1, sp_X5_isSquare), (79, false, 2, sp_X5_no), (89, false, 4, sp_X5_gets)]
set_option maxRecDepth 100000 in
set_option maxHeartbeats 4000000 in
theorem c_X5_set : Ctr M_X5_set sp_X5_set := by
  refine ctr_of (own := RX5) M_X5_set sp_X5_set (P := P_X5_set) (K := K_X5) (E := E_X5_set) (by decide) rfl pk_X5_set K_X5_ok (List.forall_mem_cons.mpr ⟨sc_X5_isWalker gw_962 (by decide) (by decide), List.forall_mem_cons.mpr ⟨sc_X5_in gw_883 (by decide) (by decide), List.forall_mem_cons.mpr ⟨sc_X5_isWay gw_947 (by decide) (by decide), List.forall_mem_cons.mpr ⟨sc_X5_isSquare gw_880 (by decide) (by decide), List.forall_mem_cons.mpr ⟨sc_X5_no gw_895 (by decide) (by decide), List.forall_mem_cons.mpr ⟨sc_X5_gets gw_954 (by decide) (by decide), fun _ h => absurd h List.not_mem_nil⟩⟩⟩⟩⟩⟩) (fun as hp Q h => by obtain ⟨x, hx, -⟩ := spH_e h; rw [d_M_III_e hx]; exact Nat.le_of_ble_eq_true rfl) ?_
  intro Q G hQi hG as hp h
  obtain ⟨x, hx, hpre, hQ⟩ := spH_e h
  rw [d_M_III_e hx]
  clear h hx
  obtain ⟨w, k, v⟩ := x
  try dsimp only at hpre hQ ⊢
  have no : ¬ (inB w (mN (hp.1 53)) = true ∧ (nI 1 ≤ k ∧ k ≤ nI 3) ∧ inB v (if k = nI 3 then 4 else 25) = true) → Q (some (vI (noP hp 0).1)) (noP hp 0).2 := fun h => by
    have hF : F_set w k v hp = noP hp 0 := if_neg h
    rw [hF] at hQ
    exact hQ
  refine run hG [] 80 ?_
  refine And.intro hpre ?_
  refine And.intro (fun h1 => ?_) (fun h1 => ?_)
  · refine And.intro (vp_in_nI (by omega) (by omega)) (no (fun h => ?_))
    rw [show inB w (mN (hp.1 53)) = false from bB_0.mp h1] at h
    exact absurd h.1 (by decide)
  · refine And.intro trivial ?_
    have h1 : inB w (mN (hp.1 53)) = true := bB_1.mp h1
    have hw8 := in8 hpre h1
    refine And.intro (fun h2 => ?_) (fun h2 => ?_)
    · have h2 : (decide (nI 1 ≤ k) && decide (k ≤ nI 3)) = false := bB_0.mp h2
      refine And.intro (vp_in_nI (by omega) (by omega)) (no (fun h => ?_))
      rw [decide_eq_true h.2.1.1, decide_eq_true h.2.1.2] at h2
      exact absurd h2 (by decide)
    · have h2 : (decide (nI 1 ≤ k) && decide (k ≤ nI 3)) = true := bB_1.mp h2
      rw [Bool.and_eq_true, decide_eq_true_iff, decide_eq_true_iff] at h2
      have yes : inB v (if k = nI 3 then 4 else 25) = true → (vp_in w 8 ∧ vp_in k 5) ∧ Q (some (vI (hp.1 53 (wx w k.toNatClampNeg)))) (uI hp 53 (wx w k.toNatClampNeg) v) := fun h => by
        have hF : F_set w k v hp = _ := if_pos ⟨h1, h2, h⟩
        rw [hF] at hQ
        exact ⟨⟨hw8, in13 h2⟩, hQ⟩
      refine And.intro (fun h3 => ?_) (fun h3 => ?_)
      · rw [if_neg h3] at yes no
        refine And.intro trivial ?_
        refine And.intro (fun h4 => yes (bB_1.mp h4)) (fun h4 => ?_)
        refine And.intro (vp_in_nI (by omega) (by omega)) (no (fun h => ?_))
        rw [show inB v 25 = false from bB_0.mp h4] at h
        exact absurd h.2.2 (by decide)
      · rw [if_pos h3] at yes no
        refine And.intro trivial ?_
        refine And.intro (fun h4 => ?_) (fun h4 => yes (bB_1.mp h4))
        refine And.intro (vp_in_nI (by omega) (by omega)) (no (fun h => ?_))
        rw [show inB v 4 = false from bB_0.mp h4] at h
        exact absurd h.2.2 (by decide)
theorem sc_X5_set {own : String} {F L idx : Nat} (h1 : Cond.methodLink own idx yX5_set ∈ Gw) (hF : 3 ≤ F) (hL : 69 ≤ L) : SC own F L (idx, false, 4, sp_X5_set) := SC_V spH_mono c_X5_set okd_5 (fun as hp K h => by obtain ⟨x, hx, -⟩ := spH_e h; exact ⟨_, _, d_M_III_e hx⟩) h1 gw_975 gw_976 gw_75 gw_977 (by decide +kernel) hF hL
def F_wake (w i : Int32) (hp : HP) : Int32 × HP := if inB w (mN (hp.1 53)) = true then (neV (hp.1 53 (wx w 4)) (onV i), uI hp 53 (wx w 4) (onV i)) else noP hp 0
def sp_X5_wake : SP := spH d_M_II (fun _ hp => many (hp.1 53)) (fun x hp => some (vI (F_wake x.1 x.2 hp).1)) (fun x hp => (F_wake x.1 x.2 hp).2)
def E_X5_wake : EN := [(107, false, 2, sp_X5_isWalker), (79, false, 2, sp_X5_no), (89, false, 4, sp_X5_gets)]
set_option maxRecDepth 100000 in
set_option maxHeartbeats 4000000 in
theorem c_X5_wake : Ctr M_X5_wake sp_X5_wake := by
  refine ctr_of (own := RX5) M_X5_wake sp_X5_wake (P := P_X5_wake) (K := K_X5) (E := E_X5_wake) (by decide) rfl pk_X5_wake K_X5_ok (List.forall_mem_cons.mpr ⟨sc_X5_isWalker gw_962 (by decide) (by decide), List.forall_mem_cons.mpr ⟨sc_X5_no gw_895 (by decide) (by decide), List.forall_mem_cons.mpr ⟨sc_X5_gets gw_954 (by decide) (by decide), fun _ h => absurd h List.not_mem_nil⟩⟩⟩) (fun as hp Q h => by obtain ⟨x, hx, -⟩ := spH_e h; rw [d_M_II_e hx]; exact Nat.le_of_ble_eq_true rfl) ?_
  intro Q G hQi hG as hp h
  obtain ⟨x, hx, hpre, hQ⟩ := spH_e h
  rw [d_M_II_e hx]
  clear h hx
  obtain ⟨w, i⟩ := x
  try dsimp only at hpre hQ ⊢
  refine run hG [] 80 ?_
  refine And.intro hpre ?_
  refine And.intro (fun h1 => ?_) (fun h1 => ?_)
  · have h1 : inB w (mN (hp.1 53)) = true := bB_1.mp h1
    have hw8 := in8 hpre h1
    have hF : F_wake w i hp = _ := if_pos h1
    rw [hF] at hQ
    have fin : ∀ v, v = onV i → (vp_in w 8 ∧ vp_in (nI 4) 5) ∧ (¬ hp.1 53 (wx w 4) = v → Q (some (vI (nI 1))) (uI hp 53 (wx w 4) v)) ∧ (hp.1 53 (wx w 4) = v → Q (some (vI (nI 0))) (uI hp 53 (wx w 4) v)) := by
      intro v hv
      rw [← hv] at hQ
      refine ⟨⟨hw8, vp_in_nI (by omega) (by omega)⟩, fun h => ?_, fun h => ?_⟩
      · unfold neV at hQ
        rw [if_neg h] at hQ
        exact hQ
      · unfold neV at hQ
        rw [if_pos h] at hQ
        exact hQ
    refine And.intro (fun h2 => ?_) (fun h2 => ?_)
    · exact fin (nI 0) (if_pos h2).symm
    · exact fin (nI 1) (if_neg h2).symm
  · have hF : F_wake w i hp = noP hp 0 := if_neg (by rw [show inB w (mN (hp.1 53)) = false from bB_0.mp h1]; decide)
    rw [hF] at hQ
    exact And.intro (vp_in_nI (by omega) (by omega)) hQ
theorem sc_X5_wake {own : String} {F L idx : Nat} (h1 : Cond.methodLink own idx yX5_wake ∈ Gw) (hF : 3 ≤ F) (hL : 69 ≤ L) : SC own F L (idx, false, 3, sp_X5_wake) := SC_V spH_mono c_X5_wake okd_5 (fun as hp K h => by obtain ⟨x, hx, -⟩ := spH_e h; exact ⟨_, _, d_M_II_e hx⟩) h1 gw_979 gw_980 gw_75 gw_981 (by decide +kernel) hF hL
def F_turn (w k : Int32) (hp : HP) : Int32 × HP := if inB w (mN (hp.1 53)) = true ∧ inB k 6 = true then (hp.1 53 (wx w 0), uI hp 53 (wx w 0) k) else noP hp 0
def sp_X5_turn : SP := spH d_M_II (fun _ hp => many (hp.1 53)) (fun x hp => some (vI (F_turn x.1 x.2 hp).1)) (fun x hp => (F_turn x.1 x.2 hp).2)
def E_X5_turn : EN := [(107, false, 2, sp_X5_isWalker), (93, true, 1, sp_X5_isKind), (89, false, 4, sp_X5_gets), (79, false, 2, sp_X5_no)]
set_option maxRecDepth 100000 in
set_option maxHeartbeats 4000000 in
theorem c_X5_turn : Ctr M_X5_turn sp_X5_turn := by
  refine ctr_of (own := RX5) M_X5_turn sp_X5_turn (P := P_X5_turn) (K := K_X5) (E := E_X5_turn) (by decide) rfl pk_X5_turn K_X5_ok (List.forall_mem_cons.mpr ⟨sc_X5_isWalker gw_962 (by decide) (by decide), List.forall_mem_cons.mpr ⟨sc_X5_isKind gw_944 (by decide) (by decide), List.forall_mem_cons.mpr ⟨sc_X5_gets gw_954 (by decide) (by decide), List.forall_mem_cons.mpr ⟨sc_X5_no gw_895 (by decide) (by decide), fun _ h => absurd h List.not_mem_nil⟩⟩⟩⟩) (fun as hp Q h => by obtain ⟨x, hx, -⟩ := spH_e h; rw [d_M_II_e hx]; exact Nat.le_of_ble_eq_true rfl) ?_
  intro Q G hQi hG as hp h
  obtain ⟨x, hx, hpre, hQ⟩ := spH_e h
  rw [d_M_II_e hx]
  clear h hx
  obtain ⟨w, k⟩ := x
  try dsimp only at hpre hQ ⊢
  have no : ¬ (inB w (mN (hp.1 53)) = true ∧ inB k 6 = true) → Q (some (vI (noP hp 0).1)) (noP hp 0).2 := fun h => by
    have hF : F_turn w k hp = noP hp 0 := if_neg h
    rw [hF] at hQ
    exact hQ
  refine run hG [] 80 ?_
  refine And.intro hpre ?_
  refine And.intro (fun h1 => ?_) (fun h1 => ?_)
  · refine And.intro (vp_in_nI (by omega) (by omega)) (no (fun h => ?_))
    rw [show inB w (mN (hp.1 53)) = false from bB_0.mp h1] at h
    exact absurd h.1 (by decide)
  · refine And.intro trivial ?_
    have h1 : inB w (mN (hp.1 53)) = true := bB_1.mp h1
    refine And.intro (fun h2 => ?_) (fun h2 => ?_)
    · refine And.intro (vp_in_nI (by omega) (by omega)) (no (fun h => ?_))
      rw [show inB k 6 = false from bB_0.mp h2] at h
      exact absurd h.2 (by decide)
    · have hF : F_turn w k hp = _ := if_pos ⟨h1, bB_1.mp h2⟩
      rw [hF] at hQ
      exact And.intro ⟨in8 hpre h1, vp_in_nI (by omega) (by omega)⟩ hQ
theorem sc_X5_turn {own : String} {F L idx : Nat} (h1 : Cond.methodLink own idx yX5_turn ∈ Gw) (hF : 3 ≤ F) (hL : 68 ≤ L) : SC own F L (idx, false, 3, sp_X5_turn) := SC_V spH_mono c_X5_turn okd_5 (fun as hp K h => by obtain ⟨x, hx, -⟩ := spH_e h; exact ⟨_, _, d_M_II_e hx⟩) h1 gw_983 gw_984 gw_75 gw_985 (by decide +kernel) hF hL
def undB (o k : Int32) : Bool := if k = nI 0 then true else if k = nI 1 then decide (o = nI 1) || decide (o = nI 3) else if k = nI 2 then decide (o = nI 2) || decide (o = nI 5) else decide (o = k)
def sp_X5_isUnder : SP := spP d_S_II (fun x _ => vp_in x.2 6) (fun x _ => vI (bB (undB x.1 x.2)))
def E_X5_isUnder : EN := []
set_option maxRecDepth 100000 in
set_option maxHeartbeats 4000000 in
theorem c_X5_isUnder : Ctr M_X5_isUnder sp_X5_isUnder := by
  refine ctr_of (own := RX5) M_X5_isUnder sp_X5_isUnder (P := P_X5_isUnder) (K := K_X5) (E := E_X5_isUnder) (by decide) rfl pk_X5_isUnder K_X5_ok (fun _ h => absurd h List.not_mem_nil) (fun as hp Q h => by obtain ⟨x, hx, -⟩ := spP_e h; rw [d_S_II_e hx]; exact Nat.le_of_ble_eq_true rfl) ?_
  intro Q G hQi hG as hp h
  obtain ⟨x, hx, hpre, hQ⟩ := spP_e h
  rw [d_S_II_e hx]
  clear h hx
  obtain ⟨o, k⟩ := x
  try dsimp only at hpre hQ ⊢
  obtain ⟨j, hj, rfl⟩ := vp_in_of hpre (by omega)
  have hi : (nI j).toInt = j := nI_toInt (by omega)
  refine run hG [] 80 ?_
  refine And.intro (fun h0 => ?_) (And.intro (fun h0 => ?_) (And.intro (fun h0 => ?_) (fun h0 => ?_)))
  · have e : j = 0 := by rw [hi] at h0; omega
    subst e
    exact q_b hQ (by unfold undB; rw [if_pos rfl]; rfl)
  · have e : j = 1 := by rw [hi] at h0; omega
    subst e
    have eu : undB o (nI 1) = (decide (o = nI 1) || decide (o = nI 3)) := by unfold undB; rw [if_neg (by decide), if_pos rfl]
    rw [eu] at hQ
    refine And.intro (fun h1 => ?_) (fun h1 => And.intro (fun h2 => ?_) (fun h2 => ?_))
    · exact q_b hQ (by simp [h1, bB, nI])
    · exact q_b hQ (by rw [decide_eq_false h1, decide_eq_false h2]; rfl)
    · exact q_b hQ (by rw [decide_eq_false h1, decide_eq_true h2]; rfl)
  · have e : j = 2 := by rw [hi] at h0; omega
    subst e
    have eu : undB o (nI 2) = (decide (o = nI 2) || decide (o = nI 5)) := by unfold undB; rw [if_neg (by decide), if_neg (by decide), if_pos rfl]
    rw [eu] at hQ
    refine And.intro (fun h1 => ?_) (fun h1 => And.intro (fun h2 => ?_) (fun h2 => ?_))
    · exact q_b hQ (by simp [h1, bB, nI])
    · exact q_b hQ (by rw [decide_eq_false h1, decide_eq_false h2]; rfl)
    · exact q_b hQ (by rw [decide_eq_false h1, decide_eq_true h2]; rfl)
  · have e : 3 ≤ j := by rw [hi] at h0; omega
    have eu : undB o (nI j) = decide (o = nI j) := by
      unfold undB
      rw [if_neg (by rw [nI_eq (by omega) (by omega)]; omega), if_neg (by rw [nI_eq (by omega) (by omega)]; omega), if_neg (by rw [nI_eq (by omega) (by omega)]; omega)]
    rw [eu] at hQ
    refine And.intro (fun h1 => ?_) (fun h1 => ?_)
    · exact q_b hQ (by rw [decide_eq_false h1]; rfl)
    · have h1 : o = nI j := h1
      exact q_b hQ (by simp [h1, bB, nI])
theorem sc_X5_isUnder {own : String} {F L idx : Nat} (h1 : Cond.methodLink own idx yX5_isUnder ∈ Gw) (hF : 1 ≤ F) (hL : 21 ≤ L) : SC own F L (idx, true, 2, sp_X5_isUnder) := SC_S spP_mono c_X5_isUnder h1 gw_991 gw_75 gw_992 (by decide +kernel) hF hL
def F_as (w k : Int32) (hp : HP) : Int32 × HP := if inB w (mN (hp.1 53)) = true ∧ inB k 6 = true then (if undB (hp.1 53 (wx w 0)) k = true then (hp.1 53 (wx w 2), hp) else noP hp 2) else noP hp 0
def sp_X5_as : SP := spH d_M_II (fun _ hp => many (hp.1 53)) (fun x hp => some (vI (F_as x.1 x.2 hp).1)) (fun x hp => (F_as x.1 x.2 hp).2)
def E_X5_as : EN := [(107, false, 2, sp_X5_isWalker), (93, true, 1, sp_X5_isKind), (79, false, 2, sp_X5_no), (59, false, 3, sp_X5_has), (113, true, 2, sp_X5_isUnder)]
set_option maxRecDepth 100000 in
set_option maxHeartbeats 4000000 in
theorem c_X5_as : Ctr M_X5_as sp_X5_as := by
  refine ctr_of (own := RX5) M_X5_as sp_X5_as (P := P_X5_as) (K := K_X5) (E := E_X5_as) (by decide) rfl pk_X5_as K_X5_ok (List.forall_mem_cons.mpr ⟨sc_X5_isWalker gw_962 (by decide) (by decide), List.forall_mem_cons.mpr ⟨sc_X5_isKind gw_944 (by decide) (by decide), List.forall_mem_cons.mpr ⟨sc_X5_no gw_895 (by decide) (by decide), List.forall_mem_cons.mpr ⟨sc_X5_has gw_924 (by decide) (by decide), List.forall_mem_cons.mpr ⟨sc_X5_isUnder gw_990 (by decide) (by decide), fun _ h => absurd h List.not_mem_nil⟩⟩⟩⟩⟩) (fun as hp Q h => by obtain ⟨x, hx, -⟩ := spH_e h; rw [d_M_II_e hx]; exact Nat.le_of_ble_eq_true rfl) ?_
  intro Q G hQi hG as hp h
  obtain ⟨x, hx, hpre, hQ⟩ := spH_e h
  rw [d_M_II_e hx]
  clear h hx
  obtain ⟨w, k⟩ := x
  try dsimp only at hpre hQ ⊢
  have no : ¬ (inB w (mN (hp.1 53)) = true ∧ inB k 6 = true) → Q (some (vI (noP hp 0).1)) (noP hp 0).2 := fun h => by
    have hF : F_as w k hp = noP hp 0 := if_neg h
    rw [hF] at hQ
    exact hQ
  refine run hG [] 80 ?_
  refine And.intro hpre ?_
  refine And.intro (fun h1 => ?_) (fun h1 => ?_)
  · refine And.intro (vp_in_nI (by omega) (by omega)) (no (fun h => ?_))
    rw [show inB w (mN (hp.1 53)) = false from bB_0.mp h1] at h
    exact absurd h.1 (by decide)
  · refine And.intro trivial ?_
    have h1 : inB w (mN (hp.1 53)) = true := bB_1.mp h1
    have hw8 := in8 hpre h1
    refine And.intro (fun h2 => ?_) (fun h2 => ?_)
    · have hF : F_as w k hp = _ := if_pos ⟨h1, bB_1.mp h2⟩
      rw [hF] at hQ
      refine And.intro ⟨hw8, vp_in_nI (by omega) (by omega)⟩ ?_
      refine And.intro (inB_t.mp (bB_1.mp h2)) ?_
      refine And.intro (fun h3 => ?_) (fun h3 => ?_)
      · have h3 : undB (hp.1 53 (wx w 0)) k = false := bB_0.mp h3
        rw [if_neg (by rw [h3]; decide)] at hQ
        exact And.intro (vp_in_nI (by omega) (by omega)) hQ
      · have h3 : undB (hp.1 53 (wx w 0)) k = true := bB_1.mp h3
        rw [if_pos h3] at hQ
        exact And.intro ⟨hw8, vp_in_nI (by omega) (by omega)⟩ hQ
    · refine And.intro (vp_in_nI (by omega) (by omega)) (no (fun h => ?_))
      rw [show inB k 6 = false from bB_0.mp h2] at h
      exact absurd h.2 (by decide)
theorem sc_X5_as {own : String} {F L idx : Nat} (h1 : Cond.methodLink own idx yX5_as ∈ Gw) (hF : 3 ≤ F) (hL : 65 ≤ L) : SC own F L (idx, false, 3, sp_X5_as) := SC_V spH_mono c_X5_as okd_5 (fun as hp K h => by obtain ⟨x, hx, -⟩ := spH_e h; exact ⟨_, _, d_M_II_e hx⟩) h1 gw_987 gw_988 gw_75 gw_989 (by decide +kernel) hF hL
end
section
def turB (f : Nat → Int32) (q : Nat) (l : Bool) (w : Nat) : Bool := mayB f q w && (!l || decide (f (44 + bsd q w) = nI 1))
def sp_X5_turned : SP := spP d_M_III (fun x _ => vp_in x.1 25 ∧ vp_in x.2.1 4) (fun x hp => vI (trnV (turB (hp.1 53) x.1.toNatClampNeg (decide (¬ x.2.2 = 0))) x.2.1.toNatClampNeg))
theorem may_bsd {f : Nat → Int32} {q w : Nat} (h : mayB f q w = true) : bsd q w ≠ 99 := by
  unfold mayB at h
  rw [Bool.and_eq_true] at h
  intro h2
  rw [h2] at h
  exact absurd h.1 (by decide)
theorem bsV_may {q w : Nat} (h : bsd q w ≠ 99) : bsV q w = nI (bsd q w) := by unfold bsV; rw [if_neg h]
def E_X5_turned : EN := [(103, false, 3, sp_X5_may), (63, true, 2, sp_X5_beside)]
set_option maxRecDepth 100000 in
set_option maxHeartbeats 4000000 in
theorem c_X5_turned : Ctr M_X5_turned sp_X5_turned := by
  refine ctr_of (own := RX5) M_X5_turned sp_X5_turned (P := P_X5_turned) (K := K_X5) (E := E_X5_turned) (by decide) rfl pk_X5_turned K_X5_ok (List.forall_mem_cons.mpr ⟨sc_X5_may gw_970 (by decide) (by decide), List.forall_mem_cons.mpr ⟨sc_X5_beside gw_889 (by decide) (by decide), fun _ h => absurd h List.not_mem_nil⟩⟩) (fun as hp Q h => by obtain ⟨x, hx, -⟩ := spP_e h; rw [d_M_III_e hx]; exact Nat.le_of_ble_eq_true rfl) ?_
  intro Q G hQi hG as hp h
  obtain ⟨x, hx, hpre, hQ⟩ := spP_e h
  rw [d_M_III_e hx]
  clear h hx
  obtain ⟨q, y, l⟩ := x
  try dsimp only at hpre hQ ⊢
  obtain ⟨hq0, hy0⟩ := hpre
  obtain ⟨q, hq, rfl⟩ := vp_in_of hq0 (by omega)
  obtain ⟨y, hy, rfl⟩ := vp_in_of hy0 (by omega)
  have eq : (nI q).toNatClampNeg = q := nI_clamp (by omega)
  have ey : (nI y).toNatClampNeg = y := nI_clamp (by omega)
  rw [eq, ey] at hQ
  have key := for_up (P := fun k => Q (some (vI (ff (wayB (turB (hp.1 53) q (decide (¬ l = 0))) y) (-1) (4 - k) k))) hp → G 3 [(4, vI (nI k)), (0, vR 5 52), (1, vI (nI q)), (2, vI (nI y)), (3, vI l)] [] hp) 4 (by
    intro hQ
    refine run hG [3] 60 ?_
    exact And.intro (fun h1 => hQ) (fun h1 => absurd (nI_le (Nat.le_refl _) (by omega)) h1)) (by
    intro k hk ih hQ
    have e4 : 4 - k = (4 - (k + 1)) + 1 := by omega
    rw [e4] at hQ
    have ew : nI y + nI k - (nI y + nI k) / nI 4 * nI 4 = nI ((y + k) % 4) := by rw [nI_add]; exact nI_rem (by omega) (by omega) (by omega)
    have hw4 : (y + k) % 4 < 4 := Nat.mod_lt _ (by omega)
    generalize hwe : (y + k) % 4 = w at ew hw4
    have ewi : (nI w).toNatClampNeg = w := nI_clamp (by omega)
    have hin4 : vp_in (nI y + nI k - (nI y + nI k) / nI 4 * nI 4) 4 := by rw [ew]; exact vp_in_nI hw4 (by omega)
    have next : turB (hp.1 53) q (decide (¬ l = 0)) w = false → ∀ v, G 3 [(4, vI (nI k + nI 1)), (5, v), (0, vR 5 52), (1, vI (nI q)), (2, vI (nI y)), (3, vI l)] [] hp := by
      intro hf v
      refine cl_lv hG [(4, vI (nI k + nI 1)), (0, vR 5 52), (1, vI (nI q)), (2, vI (nI y)), (3, vI l)] ⟨rfl, rfl, rfl, rfl, rfl, trivial⟩ ?_
      rw [nI_s]
      apply ih
      rw [ff_n (by unfold wayB; rw [hwe, hf, if_neg (by decide)])] at hQ
      exact hQ
    have done : turB (hp.1 53) q (decide (¬ l = 0)) w = true → Q (some (vI (nI y + nI k - (nI y + nI k) / nI 4 * nI 4))) hp := by
      intro hf
      rw [ff_s (by unfold wayB; rw [hwe, hf, if_pos rfl])] at hQ
      rw [ew]
      exact hQ
    refine run hG [3] 60 ?_
    refine And.intro (fun h1 => absurd h1 (nI_ge hk (by omega))) (fun h1 => ?_)
    refine And.intro (by decide) ?_
    refine And.intro ⟨hq0, hin4⟩ ?_
    refine And.intro (fun h2 => ?_) (fun h2 => ?_)
    · have h2 : mayB (hp.1 53) (nI q).toNatClampNeg (nI y + nI k - (nI y + nI k) / nI 4 * nI 4).toNatClampNeg = false := bB_0.mp h2
      rw [eq, ew, ewi] at h2
      refine cl_use hG (next (by unfold turB; rw [h2]; rfl) (vI (nI y + nI k - (nI y + nI k) / nI 4 * nI 4))) ⟨rfl, rfl, rfl, rfl, rfl, rfl, trivial⟩
    · have h2 : mayB (hp.1 53) (nI q).toNatClampNeg (nI y + nI k - (nI y + nI k) / nI 4 * nI 4).toNatClampNeg = true := bB_1.mp h2
      rw [eq, ew, ewi] at h2
      have hb := may_bsd h2
      have hb25 : bsd q w < 25 := by rcases bsd_lt q hq w hw4 with h | h <;> omega
      refine And.intro (fun h3 => ?_) (fun h3 => ?_)
      · exact done (by unfold turB; rw [h2, decide_eq_false (fun h => h h3)]; rfl)
      · refine And.intro ⟨hq0, hin4⟩ ?_
        have ei : nI 44 + bsV (nI q).toNatClampNeg (nI y + nI k - (nI y + nI k) / nI 4 * nI 4).toNatClampNeg = nI (44 + bsd q w) := by rw [eq, ew, ewi, bsV_may hb, nI_add]
        refine And.intro (show vp_in (nI 44 + bsV (nI q).toNatClampNeg (nI y + nI k - (nI y + nI k) / nI 4 * nI 4).toNatClampNeg) 184 by rw [ei]; exact vp_in_nI (by omega) (by omega)) ?_
        refine And.intro (fun h4 => ?_) (fun h4 => ?_)
        · have h4 : ¬ hp.1 53 (nI 44 + bsV (nI q).toNatClampNeg (nI y + nI k - (nI y + nI k) / nI 4 * nI 4).toNatClampNeg).toNatClampNeg = nI 1 := h4
          rw [ei, nI_clamp (by omega)] at h4
          refine cl_use hG (next (by unfold turB; rw [h2, decide_eq_true h3, decide_eq_false h4]; rfl) (vI (nI y + nI k - (nI y + nI k) / nI 4 * nI 4))) ⟨rfl, rfl, rfl, rfl, rfl, rfl, trivial⟩
        · have h4 : hp.1 53 (nI 44 + bsV (nI q).toNatClampNeg (nI y + nI k - (nI y + nI k) / nI 4 * nI 4).toNatClampNeg).toNatClampNeg = nI 1 := h4
          rw [ei, nI_clamp (by omega)] at h4
          exact done (by unfold turB; rw [h2, decide_eq_true h4]; simp)) 0 (by omega) hQ
  refine run hG [3] 60 ?_
  exact cl_use hG key ⟨rfl, rfl, rfl, rfl, rfl, trivial⟩
theorem sc_X5_turned {own : String} {F L idx : Nat} (h1 : Cond.methodLink own idx yX5_turned ∈ Gw) (hF : 3 ≤ F) (hL : 68 ≤ L) : SC own F L (idx, false, 4, sp_X5_turned) := SC_V spP_mono c_X5_turned okd_5 (fun as hp K h => by obtain ⟨x, hx, -⟩ := spP_e h; exact ⟨_, _, d_M_III_e hx⟩) h1 gw_1003 gw_32 gw_75 gw_1004 (by decide +kernel) hF hL
def lmpV (f : Nat → Int32) (q y : Nat) : Int32 := if 0 ≤ trnV (turB f q true) y then trnV (turB f q true) y else trnV (turB f q false) y
def sp_X5_lampStep : SP := spP d_M_II (fun x _ => vp_in x.1 25 ∧ vp_in x.2 4) (fun x hp => vI (lmpV (hp.1 53) x.1.toNatClampNeg x.2.toNatClampNeg))
def E_X5_lampStep : EN := [(116, false, 4, sp_X5_turned)]
set_option maxRecDepth 100000 in
set_option maxHeartbeats 4000000 in
theorem c_X5_lampStep : Ctr M_X5_lampStep sp_X5_lampStep := by
  refine ctr_of (own := RX5) M_X5_lampStep sp_X5_lampStep (P := P_X5_lampStep) (K := K_X5) (E := E_X5_lampStep) (by decide) rfl pk_X5_lampStep K_X5_ok (List.forall_mem_cons.mpr ⟨sc_X5_turned gw_1001 (by decide) (by decide), fun _ h => absurd h List.not_mem_nil⟩) (fun as hp Q h => by obtain ⟨x, hx, -⟩ := spP_e h; rw [d_M_II_e hx]; exact Nat.le_of_ble_eq_true rfl) ?_
  intro Q G hQi hG as hp h
  obtain ⟨x, hx, hpre, hQ⟩ := spP_e h
  rw [d_M_II_e hx]
  clear h hx
  obtain ⟨q, y⟩ := x
  try dsimp only at hpre hQ ⊢
  refine run hG [] 60 ?_
  refine And.intro hpre ?_
  unfold lmpV at hQ
  refine And.intro (fun h1 => ?_) (fun h1 => ?_)
  · have h1 : 0 ≤ trnV (turB (hp.1 53) q.toNatClampNeg true) y.toNatClampNeg := h1
    rw [if_pos h1] at hQ
    exact hQ
  · have h1 : ¬ 0 ≤ trnV (turB (hp.1 53) q.toNatClampNeg true) y.toNatClampNeg := h1
    rw [if_neg h1] at hQ
    exact And.intro hpre hQ
theorem sc_X5_lampStep {own : String} {F L idx : Nat} (h1 : Cond.methodLink own idx yX5_lampStep ∈ Gw) (hF : 4 ≤ F) (hL : 91 ≤ L) : SC own F L (idx, false, 3, sp_X5_lampStep) := SC_V spP_mono c_X5_lampStep okd_5 (fun as hp K h => by obtain ⟨x, hx, -⟩ := spP_e h; exact ⟨_, _, d_M_II_e hx⟩) h1 gw_1011 gw_34 gw_75 gw_1012 (by decide +kernel) hF hL
/-- the way down, and how low -/
def slpG (c : Nat → Bool) (h : Nat → Int32) (w : Nat) (p : Int32 × Int32) : Int32 × Int32 := if c w = true ∧ ¬ p.2 ≤ h w then (nI w, h w) else p
def slp (c : Nat → Bool) (h : Nat → Int32) (z : Int32) : Nat → Int32 × Int32
  | 0 => (-1, z)
  | n + 1 => slpG c h n (slp c h z n)
def slpC (f : Nat → Int32) (q : Nat) : Int32 := (slp (mayB f q) (fun w => f (19 + bsd q w)) (f (19 + q)) 4).1
def slpV (f : Nat → Int32) (q y : Nat) : Int32 := if 0 ≤ slpC f q then slpC f q else trnV (turB f q false) y
def sp_X5_slopeStep : SP := spP d_M_II (fun x _ => vp_in x.1 25 ∧ vp_in x.2 4) (fun x hp => vI (slpV (hp.1 53) x.1.toNatClampNeg x.2.toNatClampNeg))
def E_X5_slopeStep : EN := [(103, false, 3, sp_X5_may), (63, true, 2, sp_X5_beside), (116, false, 4, sp_X5_turned)]
set_option maxRecDepth 100000 in
set_option maxHeartbeats 4000000 in
theorem c_X5_slopeStep : Ctr M_X5_slopeStep sp_X5_slopeStep := by
  refine ctr_of (own := RX5) M_X5_slopeStep sp_X5_slopeStep (P := P_X5_slopeStep) (K := K_X5) (E := E_X5_slopeStep) (by decide) rfl pk_X5_slopeStep K_X5_ok (List.forall_mem_cons.mpr ⟨sc_X5_may gw_970 (by decide) (by decide), List.forall_mem_cons.mpr ⟨sc_X5_beside gw_889 (by decide) (by decide), List.forall_mem_cons.mpr ⟨sc_X5_turned gw_1001 (by decide) (by decide), fun _ h => absurd h List.not_mem_nil⟩⟩⟩) (fun as hp Q h => by obtain ⟨x, hx, -⟩ := spP_e h; rw [d_M_II_e hx]; exact Nat.le_of_ble_eq_true rfl) ?_
  intro Q G hQi hG as hp h
  obtain ⟨x, hx, hpre, hQ⟩ := spP_e h
  rw [d_M_II_e hx]
  clear h hx
  obtain ⟨q, y⟩ := x
  try dsimp only at hpre hQ ⊢
  obtain ⟨hq0, hy0⟩ := hpre
  obtain ⟨q, hq, rfl⟩ := vp_in_of hq0 (by omega)
  have eq : (nI q).toNatClampNeg = q := nI_clamp (by omega)
  rw [eq] at hQ
  have key := for_up (P := fun k => G 16 [(5, vI (nI k)), (4, vI (slp (mayB (hp.1 53) q) (fun w => hp.1 53 (19 + bsd q w)) (hp.1 53 (19 + q)) k).2), (3, vI (slp (mayB (hp.1 53) q) (fun w => hp.1 53 (19 + bsd q w)) (hp.1 53 (19 + q)) k).1), (0, vR 5 52), (1, vI (nI q)), (2, vI y)] [] hp) 4 (by
    refine run hG [16] 60 ?_
    refine And.intro (fun h1 => ?_) (fun h1 => absurd (nI_le (Nat.le_refl _) (by omega)) h1)
    unfold slpV at hQ
    refine And.intro (fun h2 => ?_) (fun h2 => ?_)
    · have h2 : 0 ≤ slpC (hp.1 53) q := h2
      rw [if_pos h2] at hQ
      exact hQ
    · have h2 : ¬ 0 ≤ slpC (hp.1 53) q := h2
      rw [if_neg h2] at hQ
      refine And.intro ⟨hq0, hy0⟩ ?_
      rw [← eq] at hQ
      exact hQ) (by
    intro k hk ih
    generalize hp0 : slp (mayB (hp.1 53) q) (fun w => hp.1 53 (19 + bsd q w)) (hp.1 53 (19 + q)) k = p
    have ip : slp (mayB (hp.1 53) q) (fun w => hp.1 53 (19 + bsd q w)) (hp.1 53 (19 + q)) (k + 1) = slpG (mayB (hp.1 53) q) (fun w => hp.1 53 (19 + bsd q w)) k p := by rw [← hp0]; rfl
    rw [ip] at ih
    have ek : (nI k).toNatClampNeg = k := nI_clamp (by omega)
    refine run hG [16] 60 ?_
    refine And.intro (fun h1 => absurd h1 (nI_ge hk (by omega))) (fun h1 => ?_)
    refine And.intro ⟨hq0, vp_in_nI (by omega) (by omega)⟩ ?_
    refine And.intro (fun h2 => ?_) (fun h2 => ?_)
    · have h2 : mayB (hp.1 53) (nI q).toNatClampNeg (nI k).toNatClampNeg = false := bB_0.mp h2
      rw [eq, ek] at h2
      have e : slpG (mayB (hp.1 53) q) (fun w => hp.1 53 (19 + bsd q w)) k p = p := by unfold slpG; rw [if_neg (by rw [h2]; simp)]
      rw [e] at ih
      refine cl_lv hG [(5, vI (nI k + nI 1)), (4, vI p.2), (3, vI p.1), (0, vR 5 52), (1, vI (nI q)), (2, vI y)] ⟨rfl, rfl, rfl, rfl, rfl, rfl, trivial⟩ ?_
      rw [nI_s]
      exact ih
    · have h2 : mayB (hp.1 53) (nI q).toNatClampNeg (nI k).toNatClampNeg = true := bB_1.mp h2
      rw [eq, ek] at h2
      have hb := may_bsd h2
      have hb25 : bsd q k < 25 := by rcases bsd_lt q hq k hk with h | h <;> omega
      have ei : nI 19 + bsV (nI q).toNatClampNeg (nI k).toNatClampNeg = nI (19 + bsd q k) := by rw [eq, ek, bsV_may hb, nI_add]
      have hin : vp_in (nI 19 + bsV (nI q).toNatClampNeg (nI k).toNatClampNeg) 184 := by rw [ei]; exact vp_in_nI (by omega) (by omega)
      have er : hp.1 53 (nI 19 + bsV (nI q).toNatClampNeg (nI k).toNatClampNeg).toNatClampNeg = hp.1 53 (19 + bsd q k) := by rw [ei, nI_clamp (by omega)]
      refine And.intro ⟨hq0, vp_in_nI (by omega) (by omega)⟩ ?_
      refine And.intro hin ?_
      refine And.intro (fun h3 => ?_) (fun h3 => ?_)
      · have h3 : p.2 ≤ hp.1 53 (nI 19 + bsV (nI q).toNatClampNeg (nI k).toNatClampNeg).toNatClampNeg := h3
        rw [er] at h3
        have e : slpG (mayB (hp.1 53) q) (fun w => hp.1 53 (19 + bsd q w)) k p = p := by unfold slpG; rw [if_neg (fun h => h.2 h3)]
        rw [e] at ih
        refine cl_lv hG [(5, vI (nI k + nI 1)), (4, vI p.2), (3, vI p.1), (0, vR 5 52), (1, vI (nI q)), (2, vI y)] ⟨rfl, rfl, rfl, rfl, rfl, rfl, trivial⟩ ?_
        rw [nI_s]
        exact ih
      · have h3 : ¬ p.2 ≤ hp.1 53 (nI 19 + bsV (nI q).toNatClampNeg (nI k).toNatClampNeg).toNatClampNeg := h3
        rw [er] at h3
        have e : slpG (mayB (hp.1 53) q) (fun w => hp.1 53 (19 + bsd q w)) k p = (nI k, hp.1 53 (19 + bsd q k)) := by unfold slpG; rw [if_pos ⟨h2, h3⟩]
        rw [e] at ih
        refine And.intro ⟨hq0, vp_in_nI (by omega) (by omega)⟩ ?_
        refine And.intro hin ?_
        refine cl_lv hG [(5, vI (nI k + nI 1)), (4, vI (hp.1 53 (nI 19 + bsV (nI q).toNatClampNeg (nI k).toNatClampNeg).toNatClampNeg)), (3, vI (nI k)), (0, vR 5 52), (1, vI (nI q)), (2, vI y)] ⟨rfl, rfl, rfl, rfl, rfl, rfl, trivial⟩ ?_
        rw [nI_s, er]
        exact ih) 0 (by omega)
  refine run hG [16] 60 ?_
  have ei : nI 19 + nI q = nI (19 + q) := nI_add _ _
  refine And.intro (show vp_in (nI 19 + nI q) 184 by rw [ei]; exact vp_in_nI (by omega) (by omega)) ?_
  refine cl_lv hG [(5, vI (nI 0)), (4, vI (hp.1 53 (nI 19 + nI q).toNatClampNeg)), (3, vI (-1)), (0, vR 5 52), (1, vI (nI q)), (2, vI y)] ⟨rfl, rfl, rfl, rfl, rfl, rfl, trivial⟩ ?_
  rw [ei, nI_clamp (by omega)]
  exact key
theorem sc_X5_slopeStep {own : String} {F L idx : Nat} (h1 : Cond.methodLink own idx yX5_slopeStep ∈ Gw) (hF : 4 ≤ F) (hL : 93 ≤ L) : SC own F L (idx, false, 3, sp_X5_slopeStep) := SC_V spP_mono c_X5_slopeStep okd_5 (fun as hp K h => by obtain ⟨x, hx, -⟩ := spP_e h; exact ⟨_, _, d_M_II_e hx⟩) h1 gw_1007 gw_33 gw_75 gw_1008 (by decide +kernel) hF hL
def onesG (s : Int32) (k : Nat) (n : Int32) : Int32 := n + (s >>> (nI k &&& 31) &&& nI 1)
def onesV (s : Int32) : Int32 := fold (onesG s) (nI 0) 12
def sp_X5_ones : SP := spP d_S_I (fun _ _ => True) (fun x _ => vI (onesV x))
def E_X5_ones : EN := []
set_option maxRecDepth 100000 in
set_option maxHeartbeats 4000000 in
theorem c_X5_ones : Ctr M_X5_ones sp_X5_ones := by
  refine ctr_of (own := RX5) M_X5_ones sp_X5_ones (P := P_X5_ones) (K := K_X5) (E := E_X5_ones) (by decide) rfl pk_X5_ones K_X5_ok (fun _ h => absurd h List.not_mem_nil) (fun as hp Q h => by obtain ⟨x, hx, -⟩ := spP_e h; rw [d_S_I_e hx]; exact Nat.le_of_ble_eq_true rfl) ?_
  intro Q G hQi hG as hp h
  obtain ⟨x, hx, hpre, hQ⟩ := spP_e h
  rw [d_S_I_e hx]
  clear h hx
  have key := for_up (P := fun k => G 4 [(2, vI (nI k)), (1, vI (fold (onesG x) (nI 0) k)), (0, vI x)] [] hp) 12 (by
    refine run hG [4] 60 ?_
    exact And.intro (fun h1 => hQ) (fun h1 => absurd (nI_le (Nat.le_refl _) (by omega)) h1)) (by
    intro k hk ih
    refine run hG [4] 60 ?_
    refine And.intro (fun h1 => absurd h1 (nI_ge hk (by omega))) (fun h1 => ?_)
    refine cl_lv hG [(2, vI (nI k + nI 1)), (1, vI (onesG x k (fold (onesG x) (nI 0) k))), (0, vI x)] ⟨rfl, rfl, rfl, trivial⟩ ?_
    rw [nI_s]
    exact ih) 0 (by omega)
  refine run hG [4] 60 ?_
  exact cl_use hG key ⟨rfl, rfl, rfl, trivial⟩
theorem sc_X5_ones {own : String} {F L idx : Nat} (h1 : Cond.methodLink own idx yX5_ones ∈ Gw) (hF : 1 ≤ F) (hL : 22 ≤ L) : SC own F L (idx, true, 1, sp_X5_ones) := SC_S spP_mono c_X5_ones h1 gw_1023 gw_75 gw_1024 (by decide +kernel) hF hL
end
section
/-! the one who wanders -/
def rc (c : Nat → Bool) : Nat → Nat → Nat
  | 0, _ => 0
  | n + 1, w => (if c w = true then 1 else 0) + rc c n (w + 1)
def pw (c : Nat → Bool) : Nat → Nat → Nat → Nat
  | 0, w, _ => w
  | n + 1, w, l => if c w = true ∧ l = 0 then w else pw c n (w + 1) (l - (if c w = true then 1 else 0))
def drV (z : Int32) : Int32 := z * 1103515245 + nI 12345
def shV (z : Int32) : Int32 := (z.toUInt32 >>> ((nI 8).toUInt32 &&& Int32.toUInt32 31)).toInt32
theorem fold4 (g : Nat → Int32 → Int32) (z : Int32) : fold g z 4 = g 3 (g 2 (g 1 (g 0 z))) := rfl
theorem ws_val : ∀ b0 b1 b2 b3 : Bool, waysC (fun w => if w = 0 then b0 else if w = 1 then b1 else if w = 2 then b2 else b3) = nI ((if b0 then 1 else 0) + (if b1 then 2 else 0) + (if b2 then 4 else 0) + (if b3 then 8 else 0)) := by decide +kernel
theorem waysC_congr {c d : Nat → Bool} (h : ∀ w, w < 4 → c w = d w) : waysC c = waysC d := by
  unfold waysC
  rw [fold4, fold4]
  unfold waysG
  rw [h 0 (by omega), h 1 (by omega), h 2 (by omega), h 3 (by omega)]
def wsN (c : Nat → Bool) : Nat := (if c 0 then 1 else 0) + (if c 1 then 2 else 0) + (if c 2 then 4 else 0) + (if c 3 then 8 else 0)
theorem waysC_nI (c : Nat → Bool) : waysC c = nI (wsN c) := by
  rw [← waysC_congr (c := fun w => if w = 0 then c 0 else if w = 1 then c 1 else if w = 2 then c 2 else c 3) (d := c) (fun w hw => by
    rcases (show w = 0 ∨ w = 1 ∨ w = 2 ∨ w = 3 by omega) with rfl | rfl | rfl | rfl <;> rfl), ws_val]
  rfl
theorem wsN_lt (c : Nat → Bool) : wsN c < 16 := by
  unfold wsN
  cases c 0 <;> cases c 1 <;> cases c 2 <;> cases c 3 <;> decide
theorem bit16 : ∀ s, s < 16 → ∀ w, w < 4 → (nI s >>> (nI w &&& 31)) &&& nI 1 = nI (s / 2 ^ w % 2) := by decide +kernel
theorem ws_bit (c : Nat → Bool) {w : Nat} (hw : w < 4) : (waysC c >>> (nI w &&& 31)) &&& nI 1 = (if c w = true then nI 1 else nI 0) := by
  rw [waysC_nI, bit16 _ (wsN_lt c) w hw]
  unfold wsN
  rcases (show w = 0 ∨ w = 1 ∨ w = 2 ∨ w = 3 by omega) with rfl | rfl | rfl | rfl <;> cases c 0 <;> cases c 1 <;> cases c 2 <;> cases c 3 <;> decide
theorem ones16 : ∀ s, s < 16 → onesV (nI s) = nI (s % 2 + s / 2 % 2 + s / 4 % 2 + s / 8 % 2) := by decide +kernel
theorem ones_rc (c : Nat → Bool) : onesV (waysC c) = nI (rc c 4 0) := by
  rw [waysC_nI, ones16 _ (wsN_lt c)]
  show _ = nI ((if c 0 = true then 1 else 0) + ((if c 1 = true then 1 else 0) + ((if c 2 = true then 1 else 0) + ((if c 3 = true then 1 else 0) + 0))))
  unfold wsN
  cases c 0 <;> cases c 1 <;> cases c 2 <;> cases c 3 <;> decide
theorem ws_0 (c : Nat → Bool) : waysC c = 0 ↔ rc c 4 0 = 0 := by
  rw [waysC_nI]
  show _ ↔ (if c 0 = true then 1 else 0) + ((if c 1 = true then 1 else 0) + ((if c 2 = true then 1 else 0) + ((if c 3 = true then 1 else 0) + 0))) = 0
  unfold wsN
  cases c 0 <;> cases c 1 <;> cases c 2 <;> cases c 3 <;> decide
theorem rc_le (c : Nat → Bool) : rc c 4 0 ≤ 4 := by
  show (if c 0 = true then 1 else 0) + ((if c 1 = true then 1 else 0) + ((if c 2 = true then 1 else 0) + ((if c 3 = true then 1 else 0) + 0))) ≤ 4
  cases c 0 <;> cases c 1 <;> cases c 2 <;> cases c 3 <;> decide
theorem sh_pos (z : Int32) : ∃ e, e < 2 ^ 24 ∧ shV z = nI e := by
  refine ⟨(z.toUInt32 >>> ((nI 8).toUInt32 &&& Int32.toUInt32 31)).toNat, ?_, ?_⟩
  · rw [UInt32.toNat_shiftRight]
    have : ((nI 8).toUInt32 &&& Int32.toUInt32 31).toNat % 32 = 8 := by decide
    rw [this, Nat.shiftRight_eq_div_pow]
    have := z.toUInt32.toNat_lt
    omega
  · unfold shV nI
    generalize z.toUInt32 >>> ((Int32.ofNat 8).toUInt32 &&& Int32.toUInt32 31) = u
    apply Int32.toBitVec_inj.mp
    simp
def wndN (c : Nat → Bool) (z : Int32) : Nat := pw c 4 0 ((shV z).toNatClampNeg % rc c 4 0)
def wndF (f : Nat → Int32) (q : Nat) : Int32 × (Nat → Int32) := if rc (mayB f q) 4 0 = 0 then (-1, f) else (nI (wndN (mayB f q) (drV (f 1))), upd f 1 (drV (f 1)))
def sp_X5_wanderStep : SP := spH d_M_I (fun x _ => vp_in x 25) (fun x hp => some (vI (wndF (hp.1 53) x.toNatClampNeg).1)) (fun x hp => rI hp 53 (wndF (hp.1 53) x.toNatClampNeg).2)
def E_X5_wanderStep : EN := [(110, false, 2, sp_X5_waysFrom), (120, false, 1, sp_X5_draw), (124, true, 1, sp_X5_ones)]
set_option maxRecDepth 100000 in
set_option maxHeartbeats 4000000 in
theorem c_X5_wanderStep : Ctr M_X5_wanderStep sp_X5_wanderStep := by
  refine ctr_of (own := RX5) M_X5_wanderStep sp_X5_wanderStep (P := P_X5_wanderStep) (K := K_X5) (E := E_X5_wanderStep) (by decide) rfl pk_X5_wanderStep K_X5_ok (List.forall_mem_cons.mpr ⟨sc_X5_waysFrom gw_966 (by decide) (by decide), List.forall_mem_cons.mpr ⟨sc_X5_draw gw_1017 (by decide) (by decide), List.forall_mem_cons.mpr ⟨sc_X5_ones gw_1022 (by decide) (by decide), fun _ h => absurd h List.not_mem_nil⟩⟩⟩) (fun as hp Q h => by obtain ⟨x, hx, -⟩ := spH_e h; rw [d_M_I_e hx]; exact Nat.le_of_ble_eq_true rfl) ?_
  intro Q G hQi hG as hp h
  obtain ⟨x, hx, hpre, hQ⟩ := spH_e h
  rw [d_M_I_e hx]
  clear h hx
  generalize hc : mayB (hp.1 53) x.toNatClampNeg = c
  unfold wndF at hQ
  rw [hc] at hQ
  refine run hG [25] 60 ?_
  refine And.intro hpre ?_
  refine And.intro (fun h1 => ?_) (fun h1 => ?_)
  · have h1 : ¬ waysC (mayB (hp.1 53) x.toNatClampNeg) = 0 := h1
    rw [hc, ws_0] at h1
    rw [if_neg h1] at hQ
    refine And.intro trivial ?_
    refine And.intro trivial ?_
    obtain ⟨e, he, eS⟩ := sh_pos (drV (hp.1 53 1))
    have eo : onesV (waysC (mayB (hp.1 53) x.toNatClampNeg)) = nI (rc c 4 0) := by rw [hc]; exact ones_rc c
    have h4 := rc_le c
    refine And.intro ?_ ?_
    · show ¬ onesV (waysC (mayB (hp.1 53) x.toNatClampNeg)) = 0
      rw [eo]
      exact nI_ne0 (by omega) (by omega)
    · have hr : shV (drV (hp.1 53 1)) - shV (drV (hp.1 53 1)) / onesV (waysC (mayB (hp.1 53) x.toNatClampNeg)) * onesV (waysC (mayB (hp.1 53) x.toNatClampNeg)) = nI (e % rc c 4 0) := by
        rw [eo, eS]
        exact nI_rem (by omega) (by omega) (by omega)
      have hN : wndN c (drV (hp.1 53 1)) = pw c 4 0 (e % rc c 4 0) := by unfold wndN; rw [eS, nI_clamp (by omega)]
      rw [hN] at hQ
      have hlt : e % rc c 4 0 < rc c 4 0 := Nat.mod_lt _ (by omega)
      generalize e % rc c 4 0 = l at hr hQ hlt
      have hQ : Q (some (vI (nI (pw c 4 0 l)))) (uI hp 53 1 (drV (hp.1 53 1))) := hQ
      have key : ∀ hz n w l, w + n = 4 → l < rc c n w → Q (some (vI (nI (pw c n w l)))) hz → G 25 [(4, vI (nI w)), (3, vI (nI l)), (2, vI (waysC c))] [] hz := by
        intro hz n
        induction n with
        | zero => intro w l hw hl; exact absurd hl (Nat.not_lt_zero _)
        | succ n ih =>
          intro w l hw hl hQ
          have hb := ws_bit c (w := w) (by omega)
          have nxt : ∀ d, (if c w = true then nI 1 else nI 0) = nI d → (if c w = true then 1 else 0) = d → d ≤ l → ¬ (c w = true ∧ l = 0) → ∀ b, b = nI d → G 25 [(4, vI (nI w + nI 1)), (3, vI (nI l - b)), (2, vI (waysC c))] [] hz := by
            intro d _ hd hdl hn b eb
            rw [eb, nI_s, pk_sub hdl]
            refine ih (w + 1) (l - d) (by omega) ?_ ?_
            · have hl : l < (if c w = true then 1 else 0) + rc c n (w + 1) := hl
              rw [hd] at hl
              omega
            · have e9 : pw c (n + 1) w l = pw c n (w + 1) (l - d) := by
                show (if c w = true ∧ l = 0 then w else pw c n (w + 1) (l - (if c w = true then 1 else 0))) = _
                rw [if_neg hn, hd]
              rw [e9] at hQ
              exact hQ
          refine run hG [25] 60 ?_
          refine And.intro (fun h2 => ?_) (fun h2 => ?_)
          · have h2 : waysC c >>> (nI w &&& 31) &&& nI 1 = 0 := h2
            have hf : c w = false := by
              cases hcw : c w with
              | false => rfl
              | true => rw [hb, hcw, if_pos rfl] at h2; exact absurd h2 (by decide)
            refine cl_use hG (nxt 0 (by rw [hf]; rfl) (by rw [hf]; rfl) (by omega) (by rw [hf]; simp) (waysC c >>> (nI w &&& 31) &&& nI 1) (by rw [hb, hf]; rfl)) ⟨rfl, rfl, rfl, trivial⟩
          · have h2 : ¬ waysC c >>> (nI w &&& 31) &&& nI 1 = 0 := h2
            have hf : c w = true := by
              cases hcw : c w with
              | true => rfl
              | false => rw [hb, hcw, if_neg (by decide)] at h2; exact absurd (by decide) h2
            refine And.intro (fun h3 => ?_) (fun h3 => ?_)
            · have h3 : nI l ≤ 0 := h3
              have hl4 : rc c (n + 1) w < 2 ^ 31 := by
                have : ∀ n w, rc c n w ≤ n := by
                  intro n
                  induction n with
                  | zero => intro w; exact Nat.le_refl _
                  | succ n ih =>
                    intro w
                    have := ih (w + 1)
                    show (if c w = true then 1 else 0) + rc c n (w + 1) ≤ n + 1
                    split <;> omega
                have := this (n + 1) w
                omega
              have hl0 : l = 0 := by
                rcases Nat.eq_zero_or_pos l with h | h
                · exact h
                · exact absurd h3 (nI_nle h (by omega))
              have e9 : pw c (n + 1) w l = w := by
                show (if c w = true ∧ l = 0 then w else pw c n (w + 1) (l - (if c w = true then 1 else 0))) = _
                rw [if_pos ⟨hf, hl0⟩]
              rw [e9] at hQ
              exact hQ
            · have h3 : ¬ nI l ≤ 0 := h3
              have hl0 : l ≠ 0 := by
                intro h
                subst h
                exact h3 (by decide)
              refine cl_use hG (nxt 1 (by rw [hf]; rfl) (by rw [hf]; rfl) (by omega) (fun h => hl0 h.2) (waysC c >>> (nI w &&& 31) &&& nI 1) (by rw [hb, hf]; rfl)) ⟨rfl, rfl, rfl, trivial⟩
      refine cl_lv hG [(4, vI (nI 0)), (3, vI (shV (drV (hp.1 53 1)) - shV (drV (hp.1 53 1)) / onesV (waysC (mayB (hp.1 53) x.toNatClampNeg)) * onesV (waysC (mayB (hp.1 53) x.toNatClampNeg)))), (2, vI (waysC (mayB (hp.1 53) x.toNatClampNeg)))] ⟨rfl, rfl, rfl, trivial⟩ ?_
      rw [hr, hc]
      exact key _ 4 0 l rfl hlt hQ
  · have h1 : waysC (mayB (hp.1 53) x.toNatClampNeg) = 0 := h1
    rw [hc, ws_0] at h1
    rw [if_pos h1] at hQ
    have hQ : Q (some (vI (-1))) (rI hp 53 (hp.1 53)) := hQ
    rw [rI_self] at hQ
    exact hQ
theorem sc_X5_wanderStep {own : String} {F L idx : Nat} (h1 : Cond.methodLink own idx yX5_wanderStep ∈ Gw) (hF : 4 ≤ F) (hL : 90 ≤ L) : SC own F L (idx, false, 2, sp_X5_wanderStep) := SC_V spH_mono c_X5_wanderStep okd_5 (fun as hp K h => by obtain ⟨x, hx, -⟩ := spH_e h; exact ⟨_, _, d_M_I_e hx⟩) h1 gw_1015 gw_35 gw_75 gw_1016 (by decide +kernel) hF hL
end
section
/-! a walker's step -/
def plc (f : Nat → Int32) (w : Nat) : Nat := (f (144 + 5 * w + 2)).toNatClampNeg
def wyO (f : Nat → Int32) (w : Nat) : Nat := (f (144 + 5 * w + 3)).toNatClampNeg
def stF (f : Nat → Int32) (w : Nat) : Int32 × (Nat → Int32) :=
  if f (144 + 5 * w) = nI 0 then (trnV (turB f (plc f w) false) (wyO f w), f)
  else if f (144 + 5 * w) = nI 1 then (slpV f (plc f w) (wyO f w), f)
  else if f (144 + 5 * w) = nI 2 then (lmpV f (plc f w) (wyO f w), f)
  else if f (144 + 5 * w) = nI 3 then (if f (144 + 5 * w + 2) = f (144 + 5 * w + 1) ∧ ¬ f 0 = 0 then -1 else slpV f (plc f w) (wyO f w), f)
  else if f (144 + 5 * w) = nI 4 then wndF f (plc f w)
  else (if f 2 = nI 4 then lmpV f (plc f w) (wyO f w) else if nI 60 * f 2 ≤ f 0 then -1 else trnV (turB f (plc f w) false) (wyO f w), f)
def sp_X5_stepOf : SP := spH d_M_I (fun x hp => vp_in x 8 ∧ wkOK (hp.1 53) x.toNatClampNeg) (fun x hp => some (vI (stF (hp.1 53) x.toNatClampNeg).1)) (fun x hp => rI hp 53 (stF (hp.1 53) x.toNatClampNeg).2)
def E_X5_stepOf : EN := [(59, false, 3, sp_X5_has), (116, false, 4, sp_X5_turned), (127, false, 3, sp_X5_slopeStep), (130, false, 3, sp_X5_lampStep), (133, false, 2, sp_X5_wanderStep)]
set_option maxRecDepth 100000 in
set_option maxHeartbeats 4000000 in
theorem c_X5_stepOf : Ctr M_X5_stepOf sp_X5_stepOf := by
  refine ctr_of (own := RX5) M_X5_stepOf sp_X5_stepOf (P := P_X5_stepOf) (K := K_X5) (E := E_X5_stepOf) (by decide) rfl pk_X5_stepOf K_X5_ok (List.forall_mem_cons.mpr ⟨sc_X5_has gw_924 (by decide) (by decide), List.forall_mem_cons.mpr ⟨sc_X5_turned gw_1001 (by decide) (by decide), List.forall_mem_cons.mpr ⟨sc_X5_slopeStep gw_1005 (by decide) (by decide), List.forall_mem_cons.mpr ⟨sc_X5_lampStep gw_1009 (by decide) (by decide), List.forall_mem_cons.mpr ⟨sc_X5_wanderStep gw_1013 (by decide) (by decide), fun _ h => absurd h List.not_mem_nil⟩⟩⟩⟩⟩) (fun as hp Q h => by obtain ⟨x, hx, -⟩ := spH_e h; rw [d_M_I_e hx]; exact Nat.le_of_ble_eq_true rfl) ?_
  intro Q G hQi hG as hp h
  obtain ⟨x, hx, hpre, hQ⟩ := spH_e h
  rw [d_M_I_e hx]
  clear h hx
  obtain ⟨hw8, h0, h1, h2, h3, h4⟩ := hpre
  have fin : ∀ y : Int32, stF (hp.1 53) x.toNatClampNeg = (y, hp.1 53) → Q (some (vI y)) hp := by
    intro y e
    rw [e] at hQ
    have hQ : Q (some (vI y)) (rI hp 53 (hp.1 53)) := hQ
    rw [rI_self] at hQ
    exact hQ
  obtain ⟨k, hk, ek⟩ := vp_in_of h0 (by omega)
  have hki : (nI k).toInt = k := nI_toInt (by omega)
  have c2 : vp_in (nI 2) 5 := vp_in_nI (by omega) (by omega)
  refine run hG [] 60 ?_
  refine And.intro ⟨hw8, c2⟩ ?_
  refine And.intro ⟨hw8, vp_in_nI (by omega) (by omega)⟩ ?_
  refine And.intro ⟨hw8, vp_in_nI (by omega) (by omega)⟩ ?_
  have sw : ∀ j : Nat, j < 6 → (hp.1 53 (144 + 5 * x.toNatClampNeg + (nI 0).toNatClampNeg)).toInt = (j : Int) → hp.1 53 (144 + 5 * x.toNatClampNeg) = nI j := by
    intro j hj h
    have h : (hp.1 53 (144 + 5 * x.toNatClampNeg)).toInt = (j : Int) := h
    rw [ek, hki] at h
    rw [ek]
    congr 1
    omega
  refine And.intro (fun hz => ?_) (And.intro (fun hz => ?_) (And.intro (fun hz => ?_) (And.intro (fun hz => ?_) (And.intro (fun hz => ?_) (fun hz => ?_)))))
  · have e := sw 0 (by omega) hz
    refine And.intro ⟨h2, h3⟩ (fin _ ?_)
    unfold stF
    rw [if_pos e]
    rfl
  · have e := sw 1 (by omega) hz
    refine And.intro ⟨h2, h3⟩ (fin _ ?_)
    unfold stF
    rw [if_neg (by rw [e]; decide), if_pos e]
    rfl
  · have e := sw 2 (by omega) hz
    refine And.intro ⟨h2, h3⟩ (fin _ ?_)
    unfold stF
    rw [if_neg (by rw [e]; decide), if_neg (by rw [e]; decide), if_pos e]
    rfl
  · have e := sw 3 (by omega) hz
    have e9 : stF (hp.1 53) x.toNatClampNeg = (if hp.1 53 (144 + 5 * x.toNatClampNeg + 2) = hp.1 53 (144 + 5 * x.toNatClampNeg + 1) ∧ ¬ hp.1 53 0 = 0 then -1 else slpV (hp.1 53) (plc (hp.1 53) x.toNatClampNeg) (wyO (hp.1 53) x.toNatClampNeg), hp.1 53) := by
      unfold stF
      rw [if_neg (by rw [e]; decide), if_neg (by rw [e]; decide), if_neg (by rw [e]; decide), if_pos e]
    refine And.intro ⟨hw8, vp_in_nI (by omega) (by omega)⟩ ?_
    refine And.intro (fun h5 => ?_) (fun h5 => ?_)
    · have h5 : ¬ hp.1 53 (144 + 5 * x.toNatClampNeg + 2) = hp.1 53 (144 + 5 * x.toNatClampNeg + 1) := h5
      refine And.intro ⟨h2, h3⟩ (fin _ ?_)
      rw [e9, if_neg (fun h => h5 h.1)]
      rfl
    · have h5 : hp.1 53 (144 + 5 * x.toNatClampNeg + 2) = hp.1 53 (144 + 5 * x.toNatClampNeg + 1) := h5
      refine And.intro (vp_in_nI (by omega) (by omega)) ?_
      refine And.intro (fun h6 => ?_) (fun h6 => ?_)
      · have h6 : hp.1 53 0 = 0 := h6
        refine And.intro ⟨h2, h3⟩ (fin _ ?_)
        rw [e9, if_neg (fun h => h.2 h6)]
        rfl
      · have h6 : ¬ hp.1 53 0 = 0 := h6
        refine fin _ ?_
        rw [e9, if_pos ⟨h5, h6⟩]
  · have e := sw 4 (by omega) hz
    refine And.intro h2 ?_
    have e9 : stF (hp.1 53) x.toNatClampNeg = wndF (hp.1 53) (plc (hp.1 53) x.toNatClampNeg) := by
      unfold stF
      rw [if_neg (by rw [e]; decide), if_neg (by rw [e]; decide), if_neg (by rw [e]; decide), if_neg (by rw [e]; decide), if_pos e]
    rw [e9] at hQ
    exact hQ
  · have e : hp.1 53 (144 + 5 * x.toNatClampNeg) = nI 5 := by
      have hz : (hp.1 53 (144 + 5 * x.toNatClampNeg)).toInt < 0 ∨ 4 < (hp.1 53 (144 + 5 * x.toNatClampNeg)).toInt := hz
      rw [ek, hki] at hz
      rw [ek]
      congr 1
      omega
    have e9 : stF (hp.1 53) x.toNatClampNeg = (if hp.1 53 2 = nI 4 then lmpV (hp.1 53) (plc (hp.1 53) x.toNatClampNeg) (wyO (hp.1 53) x.toNatClampNeg) else if nI 60 * hp.1 53 2 ≤ hp.1 53 0 then -1 else trnV (turB (hp.1 53) (plc (hp.1 53) x.toNatClampNeg) false) (wyO (hp.1 53) x.toNatClampNeg), hp.1 53) := by
      unfold stF
      rw [if_neg (by rw [e]; decide), if_neg (by rw [e]; decide), if_neg (by rw [e]; decide), if_neg (by rw [e]; decide), if_neg (by rw [e]; decide)]
    refine And.intro (vp_in_nI (by omega) (by omega)) ?_
    refine And.intro (fun h5 => ?_) (fun h5 => ?_)
    · have h5 : ¬ hp.1 53 2 = nI 4 := h5
      rw [if_neg h5] at e9
      refine And.intro (vp_in_nI (by omega) (by omega)) ?_
      refine And.intro (vp_in_nI (by omega) (by omega)) ?_
      refine And.intro (fun h6 => ?_) (fun h6 => ?_)
      · have h6 : nI 60 * hp.1 53 2 ≤ hp.1 53 0 := h6
        rw [if_pos h6] at e9
        exact fin _ e9
      · have h6 : ¬ nI 60 * hp.1 53 2 ≤ hp.1 53 0 := h6
        rw [if_neg h6] at e9
        exact And.intro ⟨h2, h3⟩ (fin _ e9)
    · have h5 : hp.1 53 2 = nI 4 := h5
      rw [if_pos h5] at e9
      exact And.intro ⟨h2, h3⟩ (fin _ e9)
theorem sc_X5_stepOf {own : String} {F L idx : Nat} (h1 : Cond.methodLink own idx yX5_stepOf ∈ Gw) (hF : 5 ≤ F) (hL : 116 ≤ L) : SC own F L (idx, false, 2, sp_X5_stepOf) := SC_V spH_mono c_X5_stepOf okd_5 (fun as hp K h => by obtain ⟨x, hx, -⟩ := spH_e h; exact ⟨_, _, d_M_I_e hx⟩) h1 gw_999 gw_31 gw_75 gw_1000 (by decide +kernel) hF hL
/-! what a step is: none, or a way that may be gone -/
def wayOK (c : Nat → Bool) (v : Int32) : Prop := v = -1 ∨ ∃ j, j < 4 ∧ v = nI j ∧ c j = true
theorem ff_ok {v : Nat → Option Int32} {d : Int32} {p : Int32 → Prop} (hd : p d) : ∀ {n k : Nat}, (∀ j r, v j = some r → p r) → p (ff v d n k)
  | 0, _, _ => hd
  | n + 1, k, h => by
    unfold ff
    split
    · next r hr => exact h k r hr
    · exact ff_ok hd h
theorem trn_ok (c : Nat → Bool) (y : Nat) : wayOK c (trnV c y) := by
  unfold trnV
  refine ff_ok (p := wayOK c) (Or.inl rfl) ?_
  intro j r h
  unfold wayB at h
  split at h
  · next hc =>
    cases h
    exact Or.inr ⟨(y + j) % 4, Nat.mod_lt _ (by omega), rfl, hc⟩
  · cases h
theorem tur_may {f : Nat → Int32} {q w : Nat} {l : Bool} (h : turB f q l w = true) : mayB f q w = true := by
  unfold turB at h
  rw [Bool.and_eq_true] at h
  exact h.1
theorem wayOK.mono {c d : Nat → Bool} {v : Int32} (h : wayOK c v) (hcd : ∀ j, c j = true → d j = true) : wayOK d v := by
  rcases h with h | ⟨j, h1, h2, h3⟩
  · exact Or.inl h
  · exact Or.inr ⟨j, h1, h2, hcd j h3⟩
theorem lmp_ok (f : Nat → Int32) (q y : Nat) : wayOK (mayB f q) (lmpV f q y) := by
  unfold lmpV
  split
  · exact (trn_ok _ y).mono (fun j h => tur_may h)
  · exact (trn_ok _ y).mono (fun j h => tur_may h)
theorem slp_ok (c : Nat → Bool) (h : Nat → Int32) (z : Int32) : ∀ n, n ≤ 4 → wayOK c (slp c h z n).1
  | 0, _ => Or.inl rfl
  | n + 1, hn => by
    show wayOK c (slpG c h n (slp c h z n)).1
    unfold slpG
    split
    · next hc => exact Or.inr ⟨n, by omega, rfl, hc.1⟩
    · exact slp_ok c h z n (by omega)
theorem slpV_ok (f : Nat → Int32) (q y : Nat) : wayOK (mayB f q) (slpV f q y) := by
  unfold slpV
  split
  · exact slp_ok _ _ _ 4 (by omega)
  · exact (trn_ok _ y).mono (fun j h => tur_may h)
theorem pw_ok (c : Nat → Bool) : ∀ n w l, l < rc c n w → pw c n w l < w + n ∧ c (pw c n w l) = true
  | 0, w, l, h => absurd h (Nat.not_lt_zero _)
  | n + 1, w, l, h => by
    have h : l < (if c w = true then 1 else 0) + rc c n (w + 1) := h
    show (if c w = true ∧ l = 0 then w else pw c n (w + 1) (l - (if c w = true then 1 else 0))) < w + (n + 1) ∧ c (if c w = true ∧ l = 0 then w else pw c n (w + 1) (l - (if c w = true then 1 else 0))) = true
    by_cases hc : c w = true ∧ l = 0
    · rw [if_pos hc]
      exact ⟨by omega, hc.1⟩
    · rw [if_neg hc]
      have hl : l - (if c w = true then 1 else 0) < rc c n (w + 1) := by
        by_cases hw : c w = true
        · rw [if_pos hw] at h ⊢
          have : l ≠ 0 := fun h0 => hc ⟨hw, h0⟩
          omega
        · rw [if_neg hw] at h ⊢
          omega
      have := pw_ok c n (w + 1) _ hl
      exact ⟨by omega, this.2⟩
theorem wnd_ok (f : Nat → Int32) (q : Nat) : wayOK (mayB f q) (wndF f q).1 := by
  unfold wndF
  split
  · exact Or.inl rfl
  · next h =>
    have := pw_ok (mayB f q) 4 0 _ (Nat.mod_lt (shV (drV (f 1))).toNatClampNeg (Nat.pos_of_ne_zero h))
    exact Or.inr ⟨wndN (mayB f q) (drV (f 1)), by unfold wndN; omega, rfl, this.2⟩
theorem st_ok (f : Nat → Int32) (w : Nat) : wayOK (mayB f (plc f w)) (stF f w).1 := by
  unfold stF
  split
  · exact (trn_ok _ _).mono (fun j h => tur_may h)
  · split
    · exact slpV_ok _ _ _
    · split
      · exact lmp_ok _ _ _
      · split
        · dsimp only
          split
          · exact Or.inl rfl
          · exact slpV_ok _ _ _
        · split
          · exact wnd_ok _ _
          · dsimp only
            split
            · exact lmp_ok _ _ _
            · split
              · exact Or.inl rfl
              · exact (trn_ok _ _).mono (fun j h => tur_may h)
theorem st_row (f : Nat → Int32) (w : Nat) {k : Nat} (hk : k ≠ 1) : (stF f w).2 k = f k := by
  unfold stF
  split
  · rfl
  · split
    · rfl
    · split
      · rfl
      · split
        · rfl
        · split
          · unfold wndF
            split
            · rfl
            · exact pk_un hk
          · rfl
theorem wayOK.neg {c : Nat → Bool} {v : Int32} (h : wayOK c v) : (v < 0 ∧ v = -1) ∨ ∃ j, j < 4 ∧ v = nI j ∧ c j = true ∧ ¬ v < 0 := by
  rcases h with h | ⟨j, h1, h2, h3⟩
  · exact Or.inl ⟨by rw [h]; decide, h⟩
  · exact Or.inr ⟨j, h1, h2, h3, by rw [h2]; exact nI_pos (by omega)⟩
def F_step (w : Int32) (hp : HP) : Int32 × HP := if inB w (mN (hp.1 53)) = true then ((stF (hp.1 53) w.toNatClampNeg).1, rI hp 53 (upd (stF (hp.1 53) w.toNatClampNeg).2 1 (hp.1 53 1))) else noP hp 0
def sp_X5_step : SP := spH d_M_I (fun _ hp => WF (hp.1 53)) (fun x hp => some (vI (F_step x hp).1)) (fun x hp => (F_step x hp).2)
def E_X5_step : EN := [(107, false, 2, sp_X5_isWalker), (79, false, 2, sp_X5_no), (136, false, 2, sp_X5_stepOf)]
set_option maxRecDepth 100000 in
set_option maxHeartbeats 4000000 in
theorem c_X5_step : Ctr M_X5_step sp_X5_step := by
  refine ctr_of (own := RX5) M_X5_step sp_X5_step (P := P_X5_step) (K := K_X5) (E := E_X5_step) (by decide) rfl pk_X5_step K_X5_ok (List.forall_mem_cons.mpr ⟨sc_X5_isWalker gw_962 (by decide) (by decide), List.forall_mem_cons.mpr ⟨sc_X5_no gw_895 (by decide) (by decide), List.forall_mem_cons.mpr ⟨sc_X5_stepOf gw_997 (by decide) (by decide), fun _ h => absurd h List.not_mem_nil⟩⟩⟩) (fun as hp Q h => by obtain ⟨x, hx, -⟩ := spH_e h; rw [d_M_I_e hx]; exact Nat.le_of_ble_eq_true rfl) ?_
  intro Q G hQi hG as hp h
  obtain ⟨x, hx, hpre, hQ⟩ := spH_e h
  rw [d_M_I_e hx]
  clear h hx
  refine run hG [] 60 ?_
  refine And.intro hpre.many ?_
  refine And.intro (fun h1 => ?_) (fun h1 => ?_)
  · have h1 : inB x (mN (hp.1 53)) = true := bB_1.mp h1
    have hF : F_step x hp = _ := if_pos h1
    rw [hF] at hQ
    refine And.intro (vp_in_nI (by omega) (by omega)) ?_
    refine And.intro ⟨in8 hpre.many h1, hpre.wk (ix_lt (inB_t.mp h1))⟩ ?_
    refine And.intro (vp_in_nI (by omega) (by omega)) ?_
    refine q_ih hQ rfl ?_
    show uI (rI hp 53 (stF (hp.1 53) x.toNatClampNeg).2) 53 1 (hp.1 53 1) = _
    rw [uI_rI]
  · have h1 : inB x (mN (hp.1 53)) = false := bB_0.mp h1
    have hF : F_step x hp = noP hp 0 := if_neg (by rw [h1]; decide)
    rw [hF] at hQ
    exact And.intro (vp_in_nI (by omega) (by omega)) hQ
theorem sc_X5_step {own : String} {F L idx : Nat} (h1 : Cond.methodLink own idx yX5_step ∈ Gw) (hF : 6 ≤ F) (hL : 139 ≤ L) : SC own F L (idx, false, 2, sp_X5_step) := SC_V spH_mono c_X5_step okd_5 (fun as hp K h => by obtain ⟨x, hx, -⟩ := spH_e h; exact ⟨_, _, d_M_I_e hx⟩) h1 gw_994 gw_995 gw_75 gw_996 (by decide +kernel) hF hL
def inR (f : Nat → Int32) (w : Nat) : Bool := decide (f (69 + plc f w) = nI 1)
def goB (f : Nat → Int32) (w : Nat) : Bool := decide (f (144 + 5 * w + 4) = 0) && !inR f w
def sp_X5_isIn : SP := spP d_M_I (fun x hp => vp_in x 8 ∧ vp_in (hp.1 53 (144 + 5 * x.toNatClampNeg + 2)) 25) (fun x hp => vI (bB (inR (hp.1 53) x.toNatClampNeg)))
def E_X5_isIn : EN := [(59, false, 3, sp_X5_has)]
set_option maxRecDepth 100000 in
set_option maxHeartbeats 4000000 in
theorem c_X5_isIn : Ctr M_X5_isIn sp_X5_isIn := by
  refine ctr_of (own := RX5) M_X5_isIn sp_X5_isIn (P := P_X5_isIn) (K := K_X5) (E := E_X5_isIn) (by decide) rfl pk_X5_isIn K_X5_ok (List.forall_mem_cons.mpr ⟨sc_X5_has gw_924 (by decide) (by decide), fun _ h => absurd h List.not_mem_nil⟩) (fun as hp Q h => by obtain ⟨x, hx, -⟩ := spP_e h; rw [d_M_I_e hx]; exact Nat.le_of_ble_eq_true rfl) ?_
  intro Q G hQi hG as hp h
  obtain ⟨x, hx, hpre, hQ⟩ := spP_e h
  rw [d_M_I_e hx]
  clear h hx
  refine run hG [] 60 ?_
  refine And.intro ⟨hpre.1, vp_in_nI (by omega) (by omega)⟩ ?_
  have ha := add_ix (k := 69) hpre.2 (by omega)
  refine And.intro (ha.2 184 (by omega)) ?_
  refine And.intro (fun h1 => ?_) (fun h1 => ?_)
  · have h1 : ¬ hp.1 53 (nI 69 + hp.1 53 (144 + 5 * x.toNatClampNeg + 2)).toNatClampNeg = nI 1 := h1
    rw [ha.1] at h1
    exact q_b hQ (by unfold inR plc; rw [decide_eq_false h1]; rfl)
  · have h1 : hp.1 53 (nI 69 + hp.1 53 (144 + 5 * x.toNatClampNeg + 2)).toNatClampNeg = nI 1 := h1
    rw [ha.1] at h1
    exact q_b hQ (by unfold inR plc; rw [decide_eq_true h1]; rfl)
theorem sc_X5_isIn {own : String} {F L idx : Nat} (h1 : Cond.methodLink own idx yX5_isIn ∈ Gw) (hF : 2 ≤ F) (hL : 43 ≤ L) : SC own F L (idx, false, 2, sp_X5_isIn) := SC_V spP_mono c_X5_isIn okd_5 (fun as hp K h => by obtain ⟨x, hx, -⟩ := spP_e h; exact ⟨_, _, d_M_I_e hx⟩) h1 gw_1039 gw_39 gw_75 gw_1040 (by decide +kernel) hF hL
def sp_X5_goes : SP := spP d_M_I (fun x hp => vp_in x 8 ∧ vp_in (hp.1 53 (144 + 5 * x.toNatClampNeg + 2)) 25) (fun x hp => vI (bB (goB (hp.1 53) x.toNatClampNeg)))
def E_X5_goes : EN := [(59, false, 3, sp_X5_has), (139, false, 2, sp_X5_isIn)]
set_option maxRecDepth 100000 in
set_option maxHeartbeats 4000000 in
theorem c_X5_goes : Ctr M_X5_goes sp_X5_goes := by
  refine ctr_of (own := RX5) M_X5_goes sp_X5_goes (P := P_X5_goes) (K := K_X5) (E := E_X5_goes) (by decide) rfl pk_X5_goes K_X5_ok (List.forall_mem_cons.mpr ⟨sc_X5_has gw_924 (by decide) (by decide), List.forall_mem_cons.mpr ⟨sc_X5_isIn gw_1037 (by decide) (by decide), fun _ h => absurd h List.not_mem_nil⟩⟩) (fun as hp Q h => by obtain ⟨x, hx, -⟩ := spP_e h; rw [d_M_I_e hx]; exact Nat.le_of_ble_eq_true rfl) ?_
  intro Q G hQi hG as hp h
  obtain ⟨x, hx, hpre, hQ⟩ := spP_e h
  rw [d_M_I_e hx]
  clear h hx
  refine run hG [] 60 ?_
  refine And.intro ⟨hpre.1, vp_in_nI (by omega) (by omega)⟩ ?_
  refine And.intro (fun h1 => ?_) (fun h1 => ?_)
  · have h1 : ¬ hp.1 53 (144 + 5 * x.toNatClampNeg + 4) = 0 := h1
    exact q_b hQ (by unfold goB; rw [decide_eq_false h1]; rfl)
  · have h1 : hp.1 53 (144 + 5 * x.toNatClampNeg + 4) = 0 := h1
    refine And.intro hpre ?_
    refine And.intro (fun h2 => ?_) (fun h2 => ?_)
    · have h2 : inR (hp.1 53) x.toNatClampNeg = true := bB_1.mp h2
      exact q_b hQ (by unfold goB; rw [h2, decide_eq_true h1]; rfl)
    · have h2 : inR (hp.1 53) x.toNatClampNeg = false := bB_0.mp h2
      exact q_b hQ (by unfold goB; rw [h2, decide_eq_true h1]; rfl)
theorem sc_X5_goes {own : String} {F L idx : Nat} (h1 : Cond.methodLink own idx yX5_goes ∈ Gw) (hF : 3 ≤ F) (hL : 64 ≤ L) : SC own F L (idx, false, 2, sp_X5_goes) := SC_V spP_mono c_X5_goes okd_5 (fun as hp K h => by obtain ⟨x, hx, -⟩ := spP_e h; exact ⟨_, _, d_M_I_e hx⟩) h1 gw_1051 gw_42 gw_75 gw_1052 (by decide +kernel) hF hL
end
section
/-! a minute -/
def foldR (g : (Nat → Int32) → Nat → (Nat → Int32)) (f : Nat → Int32) : Nat → (Nat → Int32)
  | 0 => f
  | n + 1 => g (foldR g f n) n
def mvF (f : Nat → Int32) (w : Nat) : Nat → Int32 := if goB f w = true then (if (stF f w).1 < 0 then (stF f w).2 else upd (upd (stF f w).2 (144 + 5 * w + 3) (stF f w).1) (144 + 5 * w + 2) (bsV (plc f w) (stF f w).1.toNatClampNeg)) else f
def wkF (f : Nat → Int32) (w : Nat) : Nat → Int32 := if goB f w = true ∧ f (144 + 5 * w + 2) = f 3 then upd f (144 + 5 * w + 4) (nI 1) else f
def rdF (f : Nat → Int32) : Nat → Int32 := if f 5 ≤ 0 then f else upd (upd f 4 (f 4 + nI 1 - (f 4 + nI 1) / f 5 * f 5)) 3 (f (7 + (f 4 + nI 1 - (f 4 + nI 1) / f 5 * f 5).toNatClampNeg))
def tkF (f : Nat → Int32) : Nat → Int32 := upd f 0 (f 0 + nI 1)
def minF (f : Nat → Int32) : Nat → Int32 := tkF (rdF (foldR wkF (foldR mvF f (mN f)) (mN f)))
/-- what counts of a row for its walls -/
def keyI (k : Nat) : Prop := k = 4 ∨ k = 5 ∨ k = 6 ∨ (7 ≤ k ∧ k < 19) ∨ (44 ≤ k ∧ k < 144)
theorem WF.of {f g : Nat → Int32} (h : WF f) (hk : ∀ k, keyI k → g k = f k) (hw : ∀ w, w < mN f → wkOK g w) : WF g := by
  obtain ⟨⟨n, hn, e, h1⟩, h2, r, hr, e5, h3, h4⟩ := h
  have em : mN f = n := by unfold mN; rw [e, nI_clamp (by omega)]
  refine ⟨⟨n, hn, by rw [hk 6 (by unfold keyI; omega)]; exact e, fun w h => hw w (by omega)⟩, fun k a b => by rw [hk k (by unfold keyI; omega)]; exact h2 k a b, r, hr, by rw [hk 5 (by unfold keyI; omega)]; exact e5, fun k h => by rw [hk (7 + k) (by unfold keyI; omega)]; exact h3 k h, by rw [hk 4 (by unfold keyI; omega)]; exact h4⟩
theorem mN_lt {f : Nat → Int32} (h : WF f) : mN f ≤ 8 := by
  obtain ⟨n, hn, e⟩ := h.many
  unfold mN
  rw [e, nI_clamp (by omega)]
  exact hn
theorem mN_eq {f : Nat → Int32} (h : WF f) : f 6 = nI (mN f) := by
  obtain ⟨n, hn, e⟩ := h.many
  unfold mN
  rw [e, nI_clamp (by omega)]
theorem wkOK_upd {f : Nat → Int32} {k v : Nat → Int32} {w u j : Nat} {x : Int32} (h : wkOK f w) (hx : w ≠ u) (hj : j < 5) : wkOK (upd f (144 + 5 * u + j) x) w := by
  unfold wkOK at h ⊢
  rw [pk_un (by omega), pk_un (by omega), pk_un (by omega), pk_un (by omega), pk_un (by omega)]
  exact h
theorem WF.mv {f : Nat → Int32} (h : WF f) {w : Nat} (hw : w < mN f) : WF (mvF f w) ∧ mN (mvF f w) = mN f := by
  unfold mvF
  split
  · have hok := st_ok f w
    have hwk := h.wk hw
    obtain ⟨q, hq, eq⟩ := vp_in_of hwk.2.2.1 (by omega)
    have epl : plc f w = q := by unfold plc; rw [eq, nI_clamp (by omega)]
    have h8 := mN_lt h
    have hrow : ∀ k, keyI k → (stF f w).2 k = f k := fun k hk => st_row f w (by unfold keyI at hk; omega)
    have hrw : ∀ u, wkOK f u → wkOK (stF f w).2 u := by
      intro u hu
      unfold wkOK at hu ⊢
      rw [st_row f w (by omega), st_row f w (by omega), st_row f w (by omega), st_row f w (by omega), st_row f w (by omega)]
      exact hu
    split
    · refine ⟨h.of hrow (fun u hu => hrw u (h.wk hu)), ?_⟩
      unfold mN
      rw [hrow 6 (by unfold keyI; omega)]
    · next hneg =>
      rcases hok.neg with ⟨hn, -⟩ | ⟨j, hj, ej, hm, -⟩
      · exact absurd hn hneg
      · have hb := may_bsd hm
        rw [epl] at hb
        have hb25 : bsd q j < 25 := by rcases bsd_lt q hq j hj with h | h <;> omega
        rw [ej, nI_clamp (by omega), epl, bsV_may hb]
        refine ⟨h.of (fun k hk => ?_) (fun u hu => ?_), ?_⟩
        · rw [pk_un (by unfold keyI at hk; omega), pk_un (by unfold keyI at hk; omega)]
          exact hrow k hk
        · by_cases huw : u = w
          · subst huw
            have hu2 := hrw u hwk
            unfold wkOK at hu2 ⊢
            rw [pk_un (by omega), pk_un (by omega), pk_un (by omega), pk_un (by omega), pk_us, pk_un (by omega), pk_us, pk_un (by omega), pk_un (by omega)]
            exact ⟨hu2.1, hu2.2.1, vp_in_nI hb25 (by omega), vp_in_nI hj (by omega), hu2.2.2.2.2⟩
          · exact wkOK_upd (k := f) (v := f) (wkOK_upd (k := f) (v := f) (hrw u (h.wk hu)) huw (by omega)) huw (by omega)
        · unfold mN
          rw [pk_un (by omega), pk_un (by omega), hrow 6 (by unfold keyI; omega)]
  · exact ⟨h, rfl⟩
theorem WF.wkf {f : Nat → Int32} (h : WF f) {w : Nat} (hw : w < mN f) : WF (wkF f w) ∧ mN (wkF f w) = mN f := by
  unfold wkF
  have h8 := mN_lt h
  split
  · refine ⟨h.of (fun k hk => pk_un (by unfold keyI at hk; omega)) (fun u hu => ?_), ?_⟩
    · by_cases huw : u = w
      · subst huw
        have hu2 := h.wk hu
        unfold wkOK at hu2 ⊢
        rw [pk_un (by omega), pk_un (by omega), pk_un (by omega), pk_un (by omega), pk_us]
        exact ⟨hu2.1, hu2.2.1, hu2.2.2.1, hu2.2.2.2.1, vp_in_nI (by omega) (by omega)⟩
      · exact wkOK_upd (k := f) (v := f) (h.wk hu) huw (by omega)
    · unfold mN
      rw [pk_un (by omega)]
  · exact ⟨h, rfl⟩
theorem WF.foldR {g : (Nat → Int32) → Nat → (Nat → Int32)} (hg : ∀ f w, WF f → w < mN f → WF (g f w) ∧ mN (g f w) = mN f) {f : Nat → Int32} (h : WF f) : ∀ n, n ≤ mN f → WF (foldR g f n) ∧ mN (foldR g f n) = mN f
  | 0, _ => ⟨h, rfl⟩
  | n + 1, hn => by
    have ih := WF.foldR hg h n (by omega)
    have := hg _ n ih.1 (by rw [ih.2]; omega)
    exact ⟨this.1, this.2.trans ih.2⟩
theorem rd_val {f : Nat → Int32} {r : Nat} (hr : r ≤ 12) (h0 : 0 < r) (e5 : f 5 = nI r) (h4 : f 4 = -1 ∨ vp_in (f 4) r) : ∃ l, l < r ∧ f 4 + nI 1 - (f 4 + nI 1) / f 5 * f 5 = nI l ∧ (f 4 = -1 → l = 0) ∧ (∀ j, f 4 = nI j → j < r → l = if j + 1 < r then j + 1 else 0) := by
  rw [e5]
  rcases h4 with h4 | h4
  · refine ⟨0, h0, ?_, fun _ => rfl, fun j hj hjr => ?_⟩
    · rw [h4, show (-1 : Int32) + nI 1 = nI 0 by decide]
      exact (nI_rem (by omega) h0 (by omega)).trans (by rw [Nat.zero_mod])
    · rw [h4] at hj
      have := congrArg Int32.toInt hj
      rw [nI_toInt (by omega)] at this
      exact absurd this (by rw [show (-1 : Int32).toInt = -1 by decide]; omega)
  · obtain ⟨j, hj, ej⟩ := vp_in_of h4 (by omega)
    refine ⟨(j + 1) % r, Nat.mod_lt _ h0, ?_, fun h => ?_, fun i hi hir => ?_⟩
    · rw [ej, nI_s]
      exact nI_rem (by omega) h0 (by omega)
    · rw [ej] at h
      have := congrArg Int32.toInt h
      rw [nI_toInt (by omega)] at this
      exact absurd this (by rw [show (-1 : Int32).toInt = -1 by decide]; omega)
    · have hij : i = j := by
        rw [ej] at hi
        exact ((nI_eq (by omega) (by omega)).mp hi).symm
      subst hij
      by_cases h : i + 1 < r
      · rw [if_pos h, Nat.mod_eq_of_lt h]
      · rw [if_neg h, show i + 1 = r by omega, Nat.mod_self]
theorem WF.rd {f : Nat → Int32} (h : WF f) : WF (rdF f) ∧ mN (rdF f) = mN f := by
  unfold rdF
  split
  · exact ⟨h, rfl⟩
  · next h0 =>
    have h8 := mN_lt h
    have hwk := fun u hu => h.wk (w := u) hu
    obtain ⟨hm, hfl, r, hr, e5, hrs, h4⟩ := h
    have hr0 : 0 < r := by
      rcases Nat.eq_zero_or_pos r with h | h
      · exact absurd (by rw [e5, h]; decide) h0
      · exact h
    obtain ⟨l, hl, el, -⟩ := rd_val hr hr0 e5 (h4.resolve_left (by omega))
    rw [el]
    obtain ⟨n, hn, e6, hws⟩ := hm
    have em : mN f = n := by unfold mN; rw [e6, nI_clamp (by omega)]
    refine ⟨⟨⟨n, hn, by rw [pk_un (by omega), pk_un (by omega)]; exact e6, fun w hw => ?_⟩, fun k a b => by rw [pk_un (by omega), pk_un (by omega)]; exact hfl k a b, r, hr, by rw [pk_un (by omega), pk_un (by omega)]; exact e5, fun k hk => by rw [pk_un (by omega), pk_un (by omega)]; exact hrs k hk, Or.inr (Or.inr (by rw [pk_un (by omega), pk_us]; exact vp_in_nI hl (by omega)))⟩, ?_⟩
    · have := hws w hw
      unfold wkOK at this ⊢
      rw [pk_un (by omega), pk_un (by omega), pk_un (by omega), pk_un (by omega), pk_un (by omega), pk_un (by omega), pk_un (by omega), pk_un (by omega), pk_un (by omega), pk_un (by omega)]
      exact this
    · unfold mN
      rw [pk_un (by omega), pk_un (by omega)]
theorem WF.tk {f : Nat → Int32} (h : WF f) : WF (tkF f) ∧ mN (tkF f) = mN f := by
  unfold tkF
  have h8 := mN_lt h
  refine ⟨h.of (fun k hk => pk_un (by unfold keyI at hk; omega)) (fun u hu => ?_), ?_⟩
  · have := h.wk hu
    unfold wkOK at this ⊢
    rw [pk_un (by omega), pk_un (by omega), pk_un (by omega), pk_un (by omega), pk_un (by omega)]
    exact this
  · unfold mN
    rw [pk_un (by omega)]
theorem WF.min {f : Nat → Int32} (h : WF f) : WF (minF f) ∧ mN (minF f) = mN f := by
  have h1 := h.foldR (g := mvF) (fun f w hf hw => hf.mv hw) (mN f) (Nat.le_refl _)
  have h2 := h1.1.foldR (g := wkF) (fun f w hf hw => hf.wkf hw) (mN f) (by rw [h1.2]; exact Nat.le_refl _)
  have h3 := h2.1.rd
  have h4 := h3.1.tk
  exact ⟨h4.1, h4.2.trans (h3.2.trans (h2.2.trans h1.2))⟩
def sp_X5_minute : SP := spH d_M (fun _ hp => WF (hp.1 53)) (fun _ _ => none) (fun _ hp => rI hp 53 (minF (hp.1 53)))
def E_X5_minute : EN := [(142, false, 2, sp_X5_goes), (136, false, 2, sp_X5_stepOf), (89, false, 4, sp_X5_gets), (59, false, 3, sp_X5_has), (63, true, 2, sp_X5_beside)]
set_option maxRecDepth 100000 in
set_option maxHeartbeats 4000000 in
theorem c_X5_minute : Ctr M_X5_minute sp_X5_minute := by
  refine ctr_of (own := RX5) M_X5_minute sp_X5_minute (P := P_X5_minute) (K := K_X5) (E := E_X5_minute) (by decide) rfl pk_X5_minute K_X5_ok (List.forall_mem_cons.mpr ⟨sc_X5_goes gw_1049 (by decide) (by decide), List.forall_mem_cons.mpr ⟨sc_X5_stepOf gw_997 (by decide) (by decide), List.forall_mem_cons.mpr ⟨sc_X5_gets gw_954 (by decide) (by decide), List.forall_mem_cons.mpr ⟨sc_X5_has gw_924 (by decide) (by decide), List.forall_mem_cons.mpr ⟨sc_X5_beside gw_889 (by decide) (by decide), fun _ h => absurd h List.not_mem_nil⟩⟩⟩⟩⟩) (fun as hp Q h => by obtain ⟨x, hx, -⟩ := spH_e h; rw [d_M_e hx]; exact Nat.le_of_ble_eq_true rfl) ?_
  intro Q G hQi hG as hp h
  obtain ⟨x, hx, hpre, hQ⟩ := spH_e h
  rw [d_M_e hx]
  clear h hx
  generalize hf : hp.1 53 = f at hpre hQ
  have h8 := mN_lt hpre
  have h1 := fun n hn => hpre.foldR (g := mvF) (fun f w hf hw => hf.mv hw) n hn
  have hf1 := h1 (mN f) (Nat.le_refl _)
  have h2 := fun n hn => hf1.1.foldR (g := wkF) (fun f w hf hw => hf.wkf hw) n hn
  have end3 : G 116 [(0, vR 5 52)] [] (rI hp 53 (foldR wkF (foldR mvF f (mN f)) (mN f))) := by
    have hf2 := h2 (mN f) (by rw [hf1.2]; exact Nat.le_refl _)
    unfold minF at hQ
    generalize foldR wkF (foldR mvF f (mN f)) (mN f) = g at hf2 hQ
    have last : ∀ g', Q none (rI hp 53 (tkF g')) → G 166 [(0, vR 5 52)] [] (rI hp 53 g') := by
      intro g' hQ
      refine run hG [] 60 ?_
      refine And.intro (vp_in_nI (by omega) (by omega)) ?_
      refine And.intro (vp_in_nI (by omega) (by omega)) ?_
      refine q_n hQ ?_
      show uI (rI hp 53 g') 53 0 ((rI hp 53 g').1 53 0 + nI 1) = _
      rw [uI_rI, rI_eq]
      rfl
    refine run hG [166] 60 ?_
    refine And.intro (vp_in_nI (by omega) (by omega)) ?_
    refine And.intro (fun h5 => ?_) (fun h5 => ?_)
    · have h5 : (rI hp 53 g).1 53 5 ≤ 0 := h5
      rw [rI_eq] at h5
      refine last g ?_
      have e : rdF g = g := if_pos h5
      rw [e] at hQ
      exact hQ
    · have h5 : ¬ (rI hp 53 g).1 53 5 ≤ 0 := h5
      rw [rI_eq] at h5
      obtain ⟨-, -, r, hr, e5, hrs, h4⟩ := hf2.1
      have hr0 : 0 < r := by
        rcases Nat.eq_zero_or_pos r with h | h
        · exact absurd (by rw [e5, h]; decide) h5
        · exact h
      obtain ⟨l, hl, el, -⟩ := rd_val hr hr0 e5 (h4.resolve_left (by omega))
      have e9 : rdF g = upd (upd g 4 (nI l)) 3 (g (7 + l)) := by
        unfold rdF
        rw [if_neg h5, el, nI_clamp (by omega)]
      rw [e9] at hQ
      have i4 : vp_in (nI 4) 184 := vp_in_nI (by omega) (by omega)
      refine And.intro i4 ?_
      refine And.intro (vp_in_nI (by omega) (by omega)) ?_
      refine And.intro ?_ ?_
      · show ¬ (rI hp 53 g).1 53 5 = 0
        rw [rI_eq, e5]
        exact nI_ne0 hr0 (by omega)
      have ev : (rI hp 53 g).1 53 4 + nI 1 - ((rI hp 53 g).1 53 4 + nI 1) / (rI hp 53 g).1 53 5 * (rI hp 53 g).1 53 5 = nI l := by rw [rI_eq]; exact el
      have eh : uI (rI hp 53 g) 53 4 ((rI hp 53 g).1 53 4 + nI 1 - ((rI hp 53 g).1 53 4 + nI 1) / (rI hp 53 g).1 53 5 * (rI hp 53 g).1 53 5) = rI hp 53 (upd g 4 (nI l)) := by rw [ev, uI_rI]
      refine And.intro i4 ?_
      refine And.intro i4 ?_
      have e7 : (nI 7 + (uI (rI hp 53 g) 53 4 ((rI hp 53 g).1 53 4 + nI 1 - ((rI hp 53 g).1 53 4 + nI 1) / (rI hp 53 g).1 53 5 * (rI hp 53 g).1 53 5)).1 53 4) = nI (7 + l) := by rw [eh, rI_eq, pk_us, nI_add]
      refine And.intro (show vp_in (nI 7 + (uI (rI hp 53 g) 53 4 ((rI hp 53 g).1 53 4 + nI 1 - ((rI hp 53 g).1 53 4 + nI 1) / (rI hp 53 g).1 53 5 * (rI hp 53 g).1 53 5)).1 53 4) 184 by rw [e7]; exact vp_in_nI (by omega) (by omega)) ?_
      refine And.intro (vp_in_nI (by omega) (by omega)) ?_
      have eh2 : uI (uI (rI hp 53 g) 53 4 ((rI hp 53 g).1 53 4 + nI 1 - ((rI hp 53 g).1 53 4 + nI 1) / (rI hp 53 g).1 53 5 * (rI hp 53 g).1 53 5)) 53 3 ((uI (rI hp 53 g) 53 4 ((rI hp 53 g).1 53 4 + nI 1 - ((rI hp 53 g).1 53 4 + nI 1) / (rI hp 53 g).1 53 5 * (rI hp 53 g).1 53 5)).1 53 (nI 7 + (uI (rI hp 53 g) 53 4 ((rI hp 53 g).1 53 4 + nI 1 - ((rI hp 53 g).1 53 4 + nI 1) / (rI hp 53 g).1 53 5 * (rI hp 53 g).1 53 5)).1 53 4).toNatClampNeg) = rI hp 53 (upd (upd g 4 (nI l)) 3 (g (7 + l))) := by
        rw [e7, nI_clamp (by omega), eh, uI_rI, rI_eq, pk_un (by omega)]
      have k9 := last (upd (upd g 4 (nI l)) 3 (g (7 + l))) hQ
      rw [← eh2] at k9
      exact k9
  have key2 := for_up (P := fun k => G 68 [(1, vI (nI k)), (0, vR 5 52)] [] (rI hp 53 (foldR wkF (foldR mvF f (mN f)) k))) (mN f) (by
    have hg := h2 (mN f) (by rw [hf1.2]; exact Nat.le_refl _)
    have e6 : (rI hp 53 (foldR wkF (foldR mvF f (mN f)) (mN f))).1 53 (nI 6).toNatClampNeg = nI (mN f) := by
      rw [rI_eq]
      have := mN_eq hg.1
      rw [hg.2, hf1.2] at this
      exact this
    refine run hG [68, 116] 60 ?_
    refine And.intro (vp_in_nI (by omega) (by omega)) ?_
    refine And.intro (fun h => ?_) (fun h => absurd ?_ h)
    · exact cl_use hG end3 ⟨rfl, trivial⟩
    · show (rI hp 53 (foldR wkF (foldR mvF f (mN f)) (mN f))).1 53 (nI 6).toNatClampNeg ≤ nI (mN f)
      rw [e6]
      exact nI_le (Nat.le_refl _) (by omega)) (by
    intro k hk ih
    have hg := h2 k (by rw [hf1.2]; omega)
    have hmg : mN (foldR wkF (foldR mvF f (mN f)) k) = mN f := hg.2.trans hf1.2
    have ih : G 68 [(1, vI (nI (k + 1))), (0, vR 5 52)] [] (rI hp 53 (wkF (foldR wkF (foldR mvF f (mN f)) k) k)) := ih
    show G 68 [(1, vI (nI k)), (0, vR 5 52)] [] (rI hp 53 (foldR wkF (foldR mvF f (mN f)) k))
    generalize foldR wkF (foldR mvF f (mN f)) k = g at hg hmg ih
    have eg : (rI hp 53 g).1 53 = g := rI_eq hp 53 g
    have e6 : (rI hp 53 g).1 53 (nI 6).toNatClampNeg = nI (mN f) := by rw [eg, ← hmg]; exact mN_eq hg.1
    have hwk := hg.1.wk (w := k) (by rw [show (g 6).toNatClampNeg = mN g from rfl, hmg]; exact hk)
    have ek : (nI k).toNatClampNeg = k := nI_clamp (by omega)
    have hk8 : vp_in (nI k) 8 := vp_in_nI (by omega) (by omega)
    refine run hG [68, 116] 60 ?_
    refine And.intro (vp_in_nI (by omega) (by omega)) ?_
    refine And.intro (fun h => absurd ?_ (nI_ge hk (by omega))) (fun h => ?_)
    · have h : (rI hp 53 g).1 53 (nI 6).toNatClampNeg ≤ nI k := h
      rw [e6] at h
      exact h
    have nxt : ∀ hq, hq = rI hp 53 (wkF g k) → G 68 [(1, vI (nI k + nI 1)), (0, vR 5 52)] [] hq := by
      intro hq e
      rw [e, nI_s]
      exact ih
    refine And.intro ⟨hk8, show vp_in ((rI hp 53 g).1 53 (144 + 5 * (nI k).toNatClampNeg + 2)) 25 by rw [eg, ek]; exact hwk.2.2.1⟩ ?_
    refine And.intro (fun h3 => ?_) (fun h3 => ?_)
    · have h3 : goB ((rI hp 53 g).1 53) (nI k).toNatClampNeg = false := bB_0.mp h3
      rw [eg, ek] at h3
      exact cl_use hG (nxt _ (by unfold wkF; rw [if_neg (by rw [h3]; simp)])) ⟨rfl, rfl, trivial⟩
    · have h3 : goB ((rI hp 53 g).1 53) (nI k).toNatClampNeg = true := bB_1.mp h3
      rw [eg, ek] at h3
      refine And.intro ⟨hk8, vp_in_nI (by omega) (by omega)⟩ ?_
      refine And.intro (vp_in_nI (by omega) (by omega)) ?_
      refine And.intro (fun h4 => ?_) (fun h4 => ?_)
      · have h4 : ¬ (rI hp 53 g).1 53 (144 + 5 * (nI k).toNatClampNeg + 2) = (rI hp 53 g).1 53 3 := h4
        rw [eg, ek] at h4
        exact cl_use hG (nxt _ (by unfold wkF; rw [if_neg (fun h => h4 h.2)])) ⟨rfl, rfl, trivial⟩
      · have h4 : (rI hp 53 g).1 53 (144 + 5 * (nI k).toNatClampNeg + 2) = (rI hp 53 g).1 53 3 := h4
        rw [eg, ek] at h4
        refine And.intro ⟨hk8, vp_in_nI (by omega) (by omega)⟩ ?_
        refine cl_use hG (nxt _ ?_) ⟨rfl, rfl, trivial⟩
        show uI (rI hp 53 g) 53 (144 + 5 * (nI k).toNatClampNeg + 4) (nI 1) = _
        rw [uI_rI, ek]
        unfold wkF
        rw [if_pos ⟨h3, h4⟩]) 0 (by omega)
  have key1 := for_up (P := fun k => G 2 [(1, vI (nI k)), (0, vR 5 52)] [] (rI hp 53 (foldR mvF f k))) (mN f) (by
    have e6 : (rI hp 53 (foldR mvF f (mN f))).1 53 (nI 6).toNatClampNeg = nI (mN f) := by
      rw [rI_eq]
      have := mN_eq hf1.1
      rw [hf1.2] at this
      exact this
    refine run hG [2, 68] 60 ?_
    refine And.intro (vp_in_nI (by omega) (by omega)) ?_
    refine And.intro (fun h => ?_) (fun h => absurd ?_ h)
    · exact cl_use hG key2 ⟨rfl, rfl, trivial⟩
    · show (rI hp 53 (foldR mvF f (mN f))).1 53 (nI 6).toNatClampNeg ≤ nI (mN f)
      rw [e6]
      exact nI_le (Nat.le_refl _) (by omega)) (by
    intro k hk ih
    have hg := h1 k (by omega)
    have ih : G 2 [(1, vI (nI (k + 1))), (0, vR 5 52)] [] (rI hp 53 (mvF (foldR mvF f k) k)) := ih
    show G 2 [(1, vI (nI k)), (0, vR 5 52)] [] (rI hp 53 (foldR mvF f k))
    generalize foldR mvF f k = g at hg ih
    have hmg : mN g = mN f := hg.2
    have eg : (rI hp 53 g).1 53 = g := rI_eq hp 53 g
    have e6 : (rI hp 53 g).1 53 (nI 6).toNatClampNeg = nI (mN f) := by rw [eg, ← hmg]; exact mN_eq hg.1
    have hwk := hg.1.wk (w := k) (by rw [show (g 6).toNatClampNeg = mN g from rfl, hmg]; exact hk)
    have ek : (nI k).toNatClampNeg = k := nI_clamp (by omega)
    have hk8 : vp_in (nI k) 8 := vp_in_nI (by omega) (by omega)
    refine run hG [2, 68] 60 ?_
    refine And.intro (vp_in_nI (by omega) (by omega)) ?_
    refine And.intro (fun h => absurd ?_ (nI_ge hk (by omega))) (fun h => ?_)
    · have h : (rI hp 53 g).1 53 (nI 6).toNatClampNeg ≤ nI k := h
      rw [e6] at h
      exact h
    have nxt : ∀ hq, hq = rI hp 53 (mvF g k) → G 2 [(1, vI (nI k + nI 1)), (0, vR 5 52)] [] hq := by
      intro hq e
      rw [e, nI_s]
      exact ih
    refine And.intro ⟨hk8, show vp_in ((rI hp 53 g).1 53 (144 + 5 * (nI k).toNatClampNeg + 2)) 25 by rw [eg, ek]; exact hwk.2.2.1⟩ ?_
    refine And.intro (fun h3 => ?_) (fun h3 => ?_)
    · have h3 : goB ((rI hp 53 g).1 53) (nI k).toNatClampNeg = false := bB_0.mp h3
      rw [eg, ek] at h3
      refine And.intro (fun h4 => ?_) (fun h4 => absurd (by decide) h4)
      exact cl_use hG (nxt _ (by unfold mvF; rw [if_neg (by rw [h3]; decide)])) ⟨rfl, rfl, trivial⟩
    · have h3 : goB ((rI hp 53 g).1 53) (nI k).toNatClampNeg = true := bB_1.mp h3
      rw [eg, ek] at h3
      have em : mvF g k = if (stF g k).1 < 0 then (stF g k).2 else upd (upd (stF g k).2 (144 + 5 * k + 3) (stF g k).1) (144 + 5 * k + 2) (bsV (plc g k) (stF g k).1.toNatClampNeg) := by unfold mvF; rw [if_pos h3]
      refine And.intro ⟨hk8, show wkOK ((rI hp 53 g).1 53) (nI k).toNatClampNeg by rw [eg, ek]; exact hwk⟩ ?_
      have es : stF ((rI hp 53 g).1 53) (nI k).toNatClampNeg = stF g k := by rw [eg, ek]
      have eh : rI (rI hp 53 g) 53 (stF ((rI hp 53 g).1 53) (nI k).toNatClampNeg).2 = rI hp 53 (stF g k).2 := by rw [es, rI_rI]
      refine And.intro (fun h4 => ?_) (fun h4 => ?_)
      · have h4 : (stF ((rI hp 53 g).1 53) (nI k).toNatClampNeg).1 < 0 := h4
        rw [es] at h4
        rw [if_pos h4] at em
        exact cl_use hG (nxt (rI (rI hp 53 g) 53 (stF ((rI hp 53 g).1 53) (nI k).toNatClampNeg).2) (by rw [eh, em])) ⟨rfl, rfl, trivial⟩
      · have h4 : ¬ (stF ((rI hp 53 g).1 53) (nI k).toNatClampNeg).1 < 0 := h4
        rw [es] at h4
        rw [if_neg h4] at em
        rcases (st_ok g k).neg with ⟨hn, -⟩ | ⟨j, hj, ej, hm, -⟩
        · exact absurd hn h4
        have hv4 : vp_in (stF ((rI hp 53 g).1 53) (nI k).toNatClampNeg).1 4 := by rw [es, ej]; exact vp_in_nI hj (by omega)
        refine And.intro ⟨hk8, vp_in_nI (by omega) (by omega)⟩ ?_
        refine And.intro ⟨hk8, vp_in_nI (by omega) (by omega)⟩ ?_
        have hr1 : ∀ _ : Nat, (uI (rI (rI hp 53 g) 53 (stF ((rI hp 53 g).1 53) (nI k).toNatClampNeg).2) 53 (144 + 5 * (nI k).toNatClampNeg + 3) (stF ((rI hp 53 g).1 53) (nI k).toNatClampNeg).1) = rI hp 53 (upd (stF g k).2 (144 + 5 * k + 3) (stF g k).1) := by
          intro _
          rw [eh, es, uI_rI, ek]
        have hr2 : (uI (rI (rI hp 53 g) 53 (stF ((rI hp 53 g).1 53) (nI k).toNatClampNeg).2) 53 (144 + 5 * (nI k).toNatClampNeg + 3) (stF ((rI hp 53 g).1 53) (nI k).toNatClampNeg).1).1 53 (144 + 5 * (nI k).toNatClampNeg + 2) = g (144 + 5 * k + 2) := by
          rw [hr1 0, rI_eq, ek, pk_un (by omega), st_row g k (by omega)]
        refine And.intro ⟨?_, hv4⟩ ?_
        · show vp_in ((uI (rI (rI hp 53 g) 53 (stF ((rI hp 53 g).1 53) (nI k).toNatClampNeg).2) 53 (144 + 5 * (nI k).toNatClampNeg + 3) (stF ((rI hp 53 g).1 53) (nI k).toNatClampNeg).1).1 53 (144 + 5 * (nI k).toNatClampNeg + 2)) 25
          rw [hr2]
          exact hwk.2.2.1
        refine And.intro ⟨hk8, vp_in_nI (by omega) (by omega)⟩ ?_
        refine cl_use hG (nxt _ ?_) ⟨rfl, rfl, trivial⟩
        show uI (uI (rI (rI hp 53 g) 53 (stF ((rI hp 53 g).1 53) (nI k).toNatClampNeg).2) 53 (144 + 5 * (nI k).toNatClampNeg + 3) (stF ((rI hp 53 g).1 53) (nI k).toNatClampNeg).1) 53 (144 + 5 * (nI k).toNatClampNeg + 2) (bsV ((uI (rI (rI hp 53 g) 53 (stF ((rI hp 53 g).1 53) (nI k).toNatClampNeg).2) 53 (144 + 5 * (nI k).toNatClampNeg + 3) (stF ((rI hp 53 g).1 53) (nI k).toNatClampNeg).1).1 53 (144 + 5 * (nI k).toNatClampNeg + 2)).toNatClampNeg (stF ((rI hp 53 g).1 53) (nI k).toNatClampNeg).1.toNatClampNeg) = _
        rw [hr2, hr1 0, uI_rI, es, ek, em]
        rfl) 0 (by omega)
  have key1 : G 2 [(1, vI (nI 0)), (0, vR 5 52)] [] (rI hp 53 f) := key1
  rw [← hf, rI_self] at key1
  refine run hG [2] 60 ?_
  exact cl_use hG key1 ⟨rfl, rfl, trivial⟩
theorem sc_X5_minute {own : String} {F L idx : Nat} (h1 : Cond.methodLink own idx yX5_minute ∈ Gw) (hF : 6 ≤ F) (hL : 138 ≤ L) : SC own F L (idx, false, 1, sp_X5_minute) := SC_V spH_mono c_X5_minute okd_5 (fun as hp K h => by obtain ⟨x, hx, -⟩ := spH_e h; exact ⟨_, _, d_M_e hx⟩) h1 gw_1047 gw_41 gw_75 gw_1048 (by decide +kernel) hF hL
def goF (f : Nat → Int32) : Nat → (Nat → Int32)
  | 0 => f
  | n + 1 => minF (goF f n)
theorem WF.go {f : Nat → Int32} (h : WF f) : ∀ n, WF (goF f n) ∧ mN (goF f n) = mN f
  | 0 => ⟨h, rfl⟩
  | n + 1 => by
    have ih := WF.go h n
    have := ih.1.min
    exact ⟨this.1, this.2.trans ih.2⟩
def sp_X5_go : SP := spH d_M_I (fun x hp => WF (hp.1 53) ∧ vp_in x 1000) (fun _ _ => none) (fun x hp => rI hp 53 (goF (hp.1 53) x.toNatClampNeg))
def E_X5_go : EN := [(145, false, 1, sp_X5_minute)]
set_option maxRecDepth 100000 in
set_option maxHeartbeats 4000000 in
theorem c_X5_go : Ctr M_X5_go sp_X5_go := by
  refine ctr_of (own := RX5) M_X5_go sp_X5_go (P := P_X5_go) (K := K_X5) (E := E_X5_go) (by decide) rfl pk_X5_go K_X5_ok (List.forall_mem_cons.mpr ⟨sc_X5_minute gw_1045 (by decide) (by decide), fun _ h => absurd h List.not_mem_nil⟩) (fun as hp Q h => by obtain ⟨x, hx, -⟩ := spH_e h; rw [d_M_I_e hx]; exact Nat.le_of_ble_eq_true rfl) ?_
  intro Q G hQi hG as hp h
  obtain ⟨x, hx, hpre, hQ⟩ := spH_e h
  rw [d_M_I_e hx]
  clear h hx
  obtain ⟨hwf, hx⟩ := hpre
  obtain ⟨n, hn, rfl⟩ := vp_in_of hx (by omega)
  rw [nI_clamp (by omega)] at hQ
  generalize hf : hp.1 53 = f at hwf hQ
  have key := for_up (P := fun k => G 2 [(2, vI (nI k)), (0, vR 5 52), (1, vI (nI n))] [] (rI hp 53 (goF f k))) n (by
    refine run hG [2] 60 ?_
    exact And.intro (fun h1 => hQ) (fun h1 => absurd (nI_le (Nat.le_refl _) (by omega)) h1)) (by
    intro k hk ih
    refine run hG [2] 60 ?_
    refine And.intro (fun h1 => absurd h1 (nI_ge hk (by omega))) (fun h1 => ?_)
    refine And.intro (show WF ((rI hp 53 (goF f k)).1 53) by rw [rI_eq]; exact (hwf.go k).1) ?_
    refine cl_lv hG [(2, vI (nI k + nI 1)), (0, vR 5 52), (1, vI (nI n))] ⟨rfl, rfl, rfl, trivial⟩ ?_
    rw [nI_s]
    show G 2 _ [] (rI (rI hp 53 (goF f k)) 53 (minF ((rI hp 53 (goF f k)).1 53)))
    rw [rI_rI, rI_eq]
    exact ih) 0 (by omega)
  have key : G 2 [(2, vI (nI 0)), (0, vR 5 52), (1, vI (nI n))] [] (rI hp 53 f) := key
  rw [← hf, rI_self] at key
  refine run hG [2] 60 ?_
  exact cl_use hG key ⟨rfl, rfl, rfl, trivial⟩
theorem sc_X5_go {own : String} {F L idx : Nat} (h1 : Cond.methodLink own idx yX5_go ∈ Gw) (hF : 7 ≤ F) (hL : 160 ≤ L) : SC own F L (idx, false, 2, sp_X5_go) := SC_V spH_mono c_X5_go okd_5 (fun as hp K h => by obtain ⟨x, hx, -⟩ := spH_e h; exact ⟨_, _, d_M_I_e hx⟩) h1 gw_1043 gw_40 gw_75 gw_1044 (by decide +kernel) hF hL
end
section
def irG (f : Nat → Int32) (w : Nat) (s : Int32) : Int32 := s ||| (if inR f w = true then nI 1 <<< (nI w &&& 31) else nI 0)
def rvV (f : Nat → Int32) : Int32 := fold (irG f) (nI 0) (mN f)
def sp_X5_inRiver : SP := spP d_M (fun _ hp => WF (hp.1 53)) (fun _ hp => vI (rvV (hp.1 53)))
def E_X5_inRiver : EN := [(139, false, 2, sp_X5_isIn)]
set_option maxRecDepth 100000 in
set_option maxHeartbeats 4000000 in
theorem c_X5_inRiver : Ctr M_X5_inRiver sp_X5_inRiver := by
  refine ctr_of (own := RX5) M_X5_inRiver sp_X5_inRiver (P := P_X5_inRiver) (K := K_X5) (E := E_X5_inRiver) (by decide) rfl pk_X5_inRiver K_X5_ok (List.forall_mem_cons.mpr ⟨sc_X5_isIn gw_1037 (by decide) (by decide), fun _ h => absurd h List.not_mem_nil⟩) (fun as hp Q h => by obtain ⟨x, hx, -⟩ := spP_e h; rw [d_M_e hx]; exact Nat.le_of_ble_eq_true rfl) ?_
  intro Q G hQi hG as hp h
  obtain ⟨x, hx, hpre, hQ⟩ := spP_e h
  rw [d_M_e hx]
  clear h hx
  generalize hf : hp.1 53 = f at hpre hQ
  have h8 := mN_lt hpre
  have e6 : hp.1 53 (nI 6).toNatClampNeg = nI (mN f) := by rw [hf]; exact mN_eq hpre
  have key := for_up (P := fun k => G 4 [(2, vI (nI k)), (1, vI (fold (irG f) (nI 0) k)), (0, vR 5 52)] [] hp) (mN f) (by
    refine run hG [4] 60 ?_
    refine And.intro (vp_in_nI (by omega) (by omega)) ?_
    refine And.intro (fun h1 => hQ) (fun h1 => absurd ?_ h1)
    show hp.1 53 (nI 6).toNatClampNeg ≤ nI (mN f)
    rw [e6]
    exact nI_le (Nat.le_refl _) (by omega)) (by
    intro k hk ih
    have ek : (nI k).toNatClampNeg = k := nI_clamp (by omega)
    have hwk := hpre.wk (w := k) hk
    refine run hG [4] 60 ?_
    refine And.intro (vp_in_nI (by omega) (by omega)) ?_
    refine And.intro (fun h1 => absurd ?_ (nI_ge hk (by omega))) (fun h1 => ?_)
    · have h1 : hp.1 53 (nI 6).toNatClampNeg ≤ nI k := h1
      rw [e6] at h1
      exact h1
    refine And.intro ⟨vp_in_nI (by omega) (by omega), show vp_in (hp.1 53 (144 + 5 * (nI k).toNatClampNeg + 2)) 25 by rw [hf, ek]; exact hwk.2.2.1⟩ ?_
    refine And.intro (fun h2 => ?_) (fun h2 => ?_)
    · have h2 : inR (hp.1 53) (nI k).toNatClampNeg = false := bB_0.mp h2
      rw [hf, ek] at h2
      refine cl_lv hG [(2, vI (nI k + nI 1)), (1, vI (fold (irG f) (nI 0) k ||| nI 0)), (0, vR 5 52)] ⟨rfl, rfl, rfl, trivial⟩ ?_
      rw [nI_s, show fold (irG f) (nI 0) k ||| nI 0 = fold (irG f) (nI 0) (k + 1) by show _ = irG f k _; unfold irG; rw [h2, if_neg (by decide)]]
      exact ih
    · have h2 : inR (hp.1 53) (nI k).toNatClampNeg = true := bB_1.mp h2
      rw [hf, ek] at h2
      refine cl_lv hG [(2, vI (nI k + nI 1)), (1, vI (fold (irG f) (nI 0) k ||| nI 1 <<< (nI k &&& 31))), (0, vR 5 52)] ⟨rfl, rfl, rfl, trivial⟩ ?_
      rw [nI_s, show fold (irG f) (nI 0) k ||| nI 1 <<< (nI k &&& 31) = fold (irG f) (nI 0) (k + 1) by show _ = irG f k _; unfold irG; rw [h2, if_pos rfl]]
      exact ih) 0 (by omega)
  refine run hG [4] 60 ?_
  exact cl_use hG key ⟨rfl, rfl, rfl, trivial⟩
theorem sc_X5_inRiver {own : String} {F L idx : Nat} (h1 : Cond.methodLink own idx yX5_inRiver ∈ Gw) (hF : 3 ≤ F) (hL : 65 ≤ L) : SC own F L (idx, false, 1, sp_X5_inRiver) := SC_V spP_mono c_X5_inRiver okd_5 (fun as hp K h => by obtain ⟨x, hx, -⟩ := spP_e h; exact ⟨_, _, d_M_e hx⟩) h1 gw_1035 gw_38 gw_75 gw_1036 (by decide +kernel) hF hL
def ltB (f : Nat → Int32) (n : Int32) : Bool := decide (¬ f 0 + n ≤ nI 9999)
def sp_X5_isLate : SP := spP d_M_I (fun _ _ => True) (fun x hp => vI (bB (ltB (hp.1 53) x)))
def E_X5_isLate : EN := []
set_option maxRecDepth 100000 in
set_option maxHeartbeats 4000000 in
theorem c_X5_isLate : Ctr M_X5_isLate sp_X5_isLate := by
  refine ctr_of (own := RX5) M_X5_isLate sp_X5_isLate (P := P_X5_isLate) (K := K_X5) (E := E_X5_isLate) (by decide) rfl pk_X5_isLate K_X5_ok (fun _ h => absurd h List.not_mem_nil) (fun as hp Q h => by obtain ⟨x, hx, -⟩ := spP_e h; rw [d_M_I_e hx]; exact Nat.le_of_ble_eq_true rfl) ?_
  intro Q G hQi hG as hp h
  obtain ⟨x, hx, hpre, hQ⟩ := spP_e h
  rw [d_M_I_e hx]
  clear h hx
  refine run hG [] 60 ?_
  refine And.intro (vp_in_nI (by omega) (by omega)) ?_
  refine And.intro (fun h1 => ?_) (fun h1 => ?_)
  · have h1 : hp.1 53 0 + x ≤ nI 9999 := h1
    exact q_b hQ (by unfold ltB; rw [decide_eq_false (fun h => h h1)]; rfl)
  · have h1 : ¬ hp.1 53 0 + x ≤ nI 9999 := h1
    exact q_b hQ (by unfold ltB; rw [decide_eq_true h1]; rfl)
theorem sc_X5_isLate {own : String} {F L idx : Nat} (h1 : Cond.methodLink own idx yX5_isLate ∈ Gw) (hF : 1 ≤ F) (hL : 21 ≤ L) : SC own F L (idx, false, 2, sp_X5_isLate) := SC_V spP_mono c_X5_isLate okd_5 (fun as hp K h => by obtain ⟨x, hx, -⟩ := spP_e h; exact ⟨_, _, d_M_I_e hx⟩) h1 gw_1031 gw_37 gw_75 gw_1032 (by decide +kernel) hF hL
def mtV (f g : Nat → Int32) : Int32 := onesV (rvV g &&& (rvV f ^^^ -1))
def F_minutes (n : Int32) (hp : HP) : Int32 × HP := if nI 1 ≤ n ∧ n ≤ nI 500 then (if ltB (hp.1 53) n = true then noP hp 4 else (mtV (hp.1 53) (goF (hp.1 53) n.toNatClampNeg), rI hp 53 (goF (hp.1 53) n.toNatClampNeg))) else noP hp 0
theorem in_k {v : Int32} {a b N : Nat} (h : nI a ≤ v ∧ v ≤ nI b) (hb : b < N) (hN : N < 2 ^ 31) (ha : a < 2 ^ 31) : vp_in v N := by
  rw [Int32.le_iff_toInt_le, Int32.le_iff_toInt_le, nI_toInt ha, nI_toInt (by omega)] at h
  exact vp_in_iff.mpr (by omega)
theorem and_t {a b : Prop} [Decidable a] [Decidable b] : (decide a && decide b) = true ↔ a ∧ b := by rw [Bool.and_eq_true, decide_eq_true_iff, decide_eq_true_iff]
theorem and_f {a b : Prop} [Decidable a] [Decidable b] (h : (decide a && decide b) = false) : ¬ (a ∧ b) := fun h2 => by
  rw [and_t.mpr h2] at h
  cases h
def sp_X5_minutes : SP := spH d_M_I (fun _ hp => WF (hp.1 53)) (fun x hp => some (vI (F_minutes x hp).1)) (fun x hp => (F_minutes x hp).2)
def E_X5_minutes : EN := [(55, true, 3, sp_X5_in), (79, false, 2, sp_X5_no), (148, false, 2, sp_X5_isLate), (151, false, 1, sp_X5_inRiver), (154, false, 2, sp_X5_go), (124, true, 1, sp_X5_ones)]
set_option maxRecDepth 100000 in
set_option maxHeartbeats 4000000 in
theorem c_X5_minutes : Ctr M_X5_minutes sp_X5_minutes := by
  refine ctr_of (own := RX5) M_X5_minutes sp_X5_minutes (P := P_X5_minutes) (K := K_X5) (E := E_X5_minutes) (by decide) rfl pk_X5_minutes K_X5_ok (List.forall_mem_cons.mpr ⟨sc_X5_in gw_883 (by decide) (by decide), List.forall_mem_cons.mpr ⟨sc_X5_no gw_895 (by decide) (by decide), List.forall_mem_cons.mpr ⟨sc_X5_isLate gw_1029 (by decide) (by decide), List.forall_mem_cons.mpr ⟨sc_X5_inRiver gw_1033 (by decide) (by decide), List.forall_mem_cons.mpr ⟨sc_X5_go gw_1041 (by decide) (by decide), List.forall_mem_cons.mpr ⟨sc_X5_ones gw_1022 (by decide) (by decide), fun _ h => absurd h List.not_mem_nil⟩⟩⟩⟩⟩⟩) (fun as hp Q h => by obtain ⟨x, hx, -⟩ := spH_e h; rw [d_M_I_e hx]; exact Nat.le_of_ble_eq_true rfl) ?_
  intro Q G hQi hG as hp h
  obtain ⟨x, hx, hpre, hQ⟩ := spH_e h
  rw [d_M_I_e hx]
  clear h hx
  refine run hG [] 60 ?_
  refine And.intro trivial ?_
  refine And.intro (fun h1 => ?_) (fun h1 => ?_)
  · have h1 := and_t.mp (bB_1.mp h1)
    have hF : F_minutes x hp = _ := if_pos h1
    rw [hF] at hQ
    refine And.intro trivial ?_
    refine And.intro (fun h2 => ?_) (fun h2 => ?_)
    · have h2 : ltB (hp.1 53) x = false := bB_0.mp h2
      rw [if_neg (by rw [h2]; decide)] at hQ
      refine And.intro hpre ?_
      refine And.intro ⟨hpre, in_k h1 (by omega) (by omega) (by omega)⟩ ?_
      refine And.intro (show WF ((rI hp 53 (goF (hp.1 53) x.toNatClampNeg)).1 53) by rw [rI_eq]; exact (hpre.go _).1) ?_
      refine And.intro trivial ?_
      refine q_i hQ ?_
      show onesV (rvV ((rI hp 53 (goF (hp.1 53) x.toNatClampNeg)).1 53) &&& (rvV (hp.1 53) ^^^ -1)) = _
      rw [rI_eq]
      rfl
    · have h2 : ltB (hp.1 53) x = true := bB_1.mp h2
      rw [if_pos h2] at hQ
      exact And.intro (vp_in_nI (by omega) (by omega)) hQ
  · have h1 := and_f (bB_0.mp h1)
    have hF : F_minutes x hp = noP hp 0 := if_neg h1
    rw [hF] at hQ
    exact And.intro (vp_in_nI (by omega) (by omega)) hQ
theorem sc_X5_minutes {own : String} {F L idx : Nat} (h1 : Cond.methodLink own idx yX5_minutes ∈ Gw) (hF : 8 ≤ F) (hL : 182 ≤ L) : SC own F L (idx, false, 2, sp_X5_minutes) := SC_V spH_mono c_X5_minutes okd_5 (fun as hp K h => by obtain ⟨x, hx, -⟩ := spH_e h; exact ⟨_, _, d_M_I_e hx⟩) h1 gw_1026 gw_1027 gw_75 gw_1028 (by decide +kernel) hF hL
def hmG (f : Nat → Int32) (w : Nat) (s : Int32) : Int32 := s + (if f (144 + 5 * w + 2) = f (144 + 5 * w + 1) then nI 1 else nI 0)
def hmV (f : Nat → Int32) : Int32 := fold (hmG f) (nI 0) (mN f)
def sp_X5_homeMany : SP := spP d_M (fun _ hp => many (hp.1 53)) (fun _ hp => vI (hmV (hp.1 53)))
def E_X5_homeMany : EN := [(59, false, 3, sp_X5_has)]
set_option maxRecDepth 100000 in
set_option maxHeartbeats 4000000 in
theorem c_X5_homeMany : Ctr M_X5_homeMany sp_X5_homeMany := by
  refine ctr_of (own := RX5) M_X5_homeMany sp_X5_homeMany (P := P_X5_homeMany) (K := K_X5) (E := E_X5_homeMany) (by decide) rfl pk_X5_homeMany K_X5_ok (List.forall_mem_cons.mpr ⟨sc_X5_has gw_924 (by decide) (by decide), fun _ h => absurd h List.not_mem_nil⟩) (fun as hp Q h => by obtain ⟨x, hx, -⟩ := spP_e h; rw [d_M_e hx]; exact Nat.le_of_ble_eq_true rfl) ?_
  intro Q G hQi hG as hp h
  obtain ⟨x, hx, hpre, hQ⟩ := spP_e h
  rw [d_M_e hx]
  clear h hx
  obtain ⟨n, hn, e0⟩ := hpre
  have em : mN (hp.1 53) = n := by unfold mN; rw [e0, nI_clamp (by omega)]
  unfold hmV at hQ
  rw [em] at hQ
  have e6 : hp.1 53 (nI 6).toNatClampNeg = nI n := e0
  have key := for_up (P := fun k => G 4 [(2, vI (nI k)), (1, vI (fold (hmG (hp.1 53)) (nI 0) k)), (0, vR 5 52)] [] hp) n (by
    refine run hG [4] 60 ?_
    refine And.intro (vp_in_nI (by omega) (by omega)) ?_
    refine And.intro (fun h1 => hQ) (fun h1 => absurd ?_ h1)
    show hp.1 53 (nI 6).toNatClampNeg ≤ nI n
    rw [e6]
    exact nI_le (Nat.le_refl _) (by omega)) (by
    intro k hk ih
    have ek : (nI k).toNatClampNeg = k := nI_clamp (by omega)
    refine run hG [4] 60 ?_
    refine And.intro (vp_in_nI (by omega) (by omega)) ?_
    refine And.intro (fun h1 => absurd ?_ (nI_ge hk (by omega))) (fun h1 => ?_)
    · have h1 : hp.1 53 (nI 6).toNatClampNeg ≤ nI k := h1
      rw [e6] at h1
      exact h1
    refine And.intro ⟨vp_in_nI (by omega) (by omega), vp_in_nI (by omega) (by omega)⟩ ?_
    refine And.intro ⟨vp_in_nI (by omega) (by omega), vp_in_nI (by omega) (by omega)⟩ ?_
    refine And.intro (fun h2 => ?_) (fun h2 => ?_)
    · have h2 : ¬ hp.1 53 (144 + 5 * (nI k).toNatClampNeg + 2) = hp.1 53 (144 + 5 * (nI k).toNatClampNeg + 1) := h2
      rw [ek] at h2
      refine cl_lv hG [(2, vI (nI k + nI 1)), (1, vI (fold (hmG (hp.1 53)) (nI 0) k + nI 0)), (0, vR 5 52)] ⟨rfl, rfl, rfl, trivial⟩ ?_
      rw [nI_s, show fold (hmG (hp.1 53)) (nI 0) k + nI 0 = fold (hmG (hp.1 53)) (nI 0) (k + 1) by show _ = hmG (hp.1 53) k _; unfold hmG; rw [if_neg h2]]
      exact ih
    · have h2 : hp.1 53 (144 + 5 * (nI k).toNatClampNeg + 2) = hp.1 53 (144 + 5 * (nI k).toNatClampNeg + 1) := h2
      rw [ek] at h2
      refine cl_lv hG [(2, vI (nI k + nI 1)), (1, vI (fold (hmG (hp.1 53)) (nI 0) k + nI 1)), (0, vR 5 52)] ⟨rfl, rfl, rfl, trivial⟩ ?_
      rw [nI_s, show fold (hmG (hp.1 53)) (nI 0) k + nI 1 = fold (hmG (hp.1 53)) (nI 0) (k + 1) by show _ = hmG (hp.1 53) k _; unfold hmG; rw [if_pos h2]]
      exact ih) 0 (by omega)
  refine run hG [4] 60 ?_
  exact cl_use hG key ⟨rfl, rfl, rfl, trivial⟩
theorem sc_X5_homeMany {own : String} {F L idx : Nat} (h1 : Cond.methodLink own idx yX5_homeMany ∈ Gw) (hF : 2 ≤ F) (hL : 44 ≤ L) : SC own F L (idx, false, 1, sp_X5_homeMany) := SC_V spP_mono c_X5_homeMany okd_5 (fun as hp K h => by obtain ⟨x, hx, -⟩ := spP_e h; exact ⟨_, _, d_M_e hx⟩) h1 gw_1059 gw_43 gw_75 gw_1060 (by decide +kernel) hF hL
def awV (f : Nat → Int32) : Int32 := fold (fun w s => s + f (144 + 5 * w + 4)) (nI 0) (mN f)
def sp_X5_awake : SP := spP d_M (fun _ hp => many (hp.1 53)) (fun _ hp => vI (awV (hp.1 53)))
def E_X5_awake : EN := [(59, false, 3, sp_X5_has)]
set_option maxRecDepth 100000 in
set_option maxHeartbeats 4000000 in
theorem c_X5_awake : Ctr M_X5_awake sp_X5_awake := by
  refine ctr_of (own := RX5) M_X5_awake sp_X5_awake (P := P_X5_awake) (K := K_X5) (E := E_X5_awake) (by decide) rfl pk_X5_awake K_X5_ok (List.forall_mem_cons.mpr ⟨sc_X5_has gw_924 (by decide) (by decide), fun _ h => absurd h List.not_mem_nil⟩) (fun as hp Q h => by obtain ⟨x, hx, -⟩ := spP_e h; rw [d_M_e hx]; exact Nat.le_of_ble_eq_true rfl) ?_
  intro Q G hQi hG as hp h
  obtain ⟨x, hx, hpre, hQ⟩ := spP_e h
  rw [d_M_e hx]
  clear h hx
  obtain ⟨n, hn, e0⟩ := hpre
  have em : mN (hp.1 53) = n := by unfold mN; rw [e0, nI_clamp (by omega)]
  unfold awV at hQ
  rw [em] at hQ
  have e6 : hp.1 53 (nI 6).toNatClampNeg = nI n := e0
  have key := for_up (P := fun k => G 4 [(2, vI (nI k)), (1, vI (fold (fun w s => s + hp.1 53 (144 + 5 * w + 4)) (nI 0) k)), (0, vR 5 52)] [] hp) n (by
    refine run hG [4] 60 ?_
    refine And.intro (vp_in_nI (by omega) (by omega)) ?_
    refine And.intro (fun h1 => hQ) (fun h1 => absurd ?_ h1)
    show hp.1 53 (nI 6).toNatClampNeg ≤ nI n
    rw [e6]
    exact nI_le (Nat.le_refl _) (by omega)) (by
    intro k hk ih
    have ek : (nI k).toNatClampNeg = k := nI_clamp (by omega)
    refine run hG [4] 60 ?_
    refine And.intro (vp_in_nI (by omega) (by omega)) ?_
    refine And.intro (fun h1 => absurd ?_ (nI_ge hk (by omega))) (fun h1 => ?_)
    · have h1 : hp.1 53 (nI 6).toNatClampNeg ≤ nI k := h1
      rw [e6] at h1
      exact h1
    refine And.intro ⟨vp_in_nI (by omega) (by omega), vp_in_nI (by omega) (by omega)⟩ ?_
    refine cl_lv hG [(2, vI (nI k + nI 1)), (1, vI (fold (fun w s => s + hp.1 53 (144 + 5 * w + 4)) (nI 0) k + hp.1 53 (144 + 5 * (nI k).toNatClampNeg + 4))), (0, vR 5 52)] ⟨rfl, rfl, rfl, trivial⟩ ?_
    rw [nI_s, ek]
    exact ih) 0 (by omega)
  refine run hG [4] 60 ?_
  exact cl_use hG key ⟨rfl, rfl, rfl, trivial⟩
theorem sc_X5_awake {own : String} {F L idx : Nat} (h1 : Cond.methodLink own idx yX5_awake ∈ Gw) (hF : 2 ≤ F) (hL : 44 ≤ L) : SC own F L (idx, false, 1, sp_X5_awake) := SC_V spP_mono c_X5_awake okd_5 (fun as hp K h => by obtain ⟨x, hx, -⟩ := spP_e h; exact ⟨_, _, d_M_e hx⟩) h1 gw_1071 gw_44 gw_75 gw_1072 (by decide +kernel) hF hL
def bdG (g : Nat → Int32) (w : Nat) : Nat → Int32 := upd (upd g (144 + 5 * w + 2) (g (144 + 5 * w + 1))) (144 + 5 * w + 4) (nI 0)
def bdF (f : Nat → Int32) : Nat → Int32 := foldR bdG (upd f 0 (nI 0)) (mN f)
theorem bd6 (f : Nat → Int32) : ∀ n, foldR bdG f n 6 = f 6
  | 0 => rfl
  | n + 1 => by
    show bdG (foldR bdG f n) n 6 = _
    unfold bdG
    rw [pk_un (by omega), pk_un (by omega)]
    exact bd6 f n
def F_bed (hp : HP) : Int32 × HP := (hp.1 53 6 - hmV (hp.1 53), rI hp 53 (bdF (hp.1 53)))
def sp_X5_bed : SP := spH d_M (fun _ hp => many (hp.1 53)) (fun _ hp => some (vI (F_bed hp).1)) (fun _ hp => (F_bed hp).2)
def E_X5_bed : EN := [(158, false, 1, sp_X5_homeMany), (59, false, 3, sp_X5_has), (89, false, 4, sp_X5_gets)]
set_option maxRecDepth 100000 in
set_option maxHeartbeats 4000000 in
theorem c_X5_bed : Ctr M_X5_bed sp_X5_bed := by
  refine ctr_of (own := RX5) M_X5_bed sp_X5_bed (P := P_X5_bed) (K := K_X5) (E := E_X5_bed) (by decide) rfl pk_X5_bed K_X5_ok (List.forall_mem_cons.mpr ⟨sc_X5_homeMany gw_1057 (by decide) (by decide), List.forall_mem_cons.mpr ⟨sc_X5_has gw_924 (by decide) (by decide), List.forall_mem_cons.mpr ⟨sc_X5_gets gw_954 (by decide) (by decide), fun _ h => absurd h List.not_mem_nil⟩⟩⟩) (fun as hp Q h => by obtain ⟨x, hx, -⟩ := spH_e h; rw [d_M_e hx]; exact Nat.le_of_ble_eq_true rfl) ?_
  intro Q G hQi hG as hp h
  obtain ⟨x, hx, hpre, hQ⟩ := spH_e h
  rw [d_M_e hx]
  clear h hx
  have hm := hpre
  obtain ⟨n, hn, e0⟩ := hpre
  have em : mN (hp.1 53) = n := by unfold mN; rw [e0, nI_clamp (by omega)]
  unfold F_bed bdF at hQ
  rw [em] at hQ
  have key := for_up (P := fun k => G 22 [(2, vI (nI k)), (1, vI (hp.1 53 6 - hmV (hp.1 53))), (0, vR 5 52)] [] (rI hp 53 (foldR bdG (upd (hp.1 53) 0 (nI 0)) k))) n (by
    have e6 : (rI hp 53 (foldR bdG (upd (hp.1 53) 0 (nI 0)) n)).1 53 (nI 6).toNatClampNeg = nI n := by
      rw [rI_eq, show (nI 6).toNatClampNeg = 6 from rfl, bd6, pk_un (by omega)]
      exact e0
    refine run hG [22] 60 ?_
    refine And.intro (vp_in_nI (by omega) (by omega)) ?_
    refine And.intro (fun h1 => hQ) (fun h1 => absurd ?_ h1)
    show (rI hp 53 (foldR bdG (upd (hp.1 53) 0 (nI 0)) n)).1 53 (nI 6).toNatClampNeg ≤ nI n
    rw [e6]
    exact nI_le (Nat.le_refl _) (by omega)) (by
    intro k hk ih
    have ek : (nI k).toNatClampNeg = k := nI_clamp (by omega)
    have ih : G 22 [(2, vI (nI (k + 1))), (1, vI (hp.1 53 6 - hmV (hp.1 53))), (0, vR 5 52)] [] (rI hp 53 (bdG (foldR bdG (upd (hp.1 53) 0 (nI 0)) k) k)) := ih
    have e60 : foldR bdG (upd (hp.1 53) 0 (nI 0)) k 6 = nI n := by rw [bd6, pk_un (by omega)]; exact e0
    show G 22 [(2, vI (nI k)), (1, vI (hp.1 53 6 - hmV (hp.1 53))), (0, vR 5 52)] [] (rI hp 53 (foldR bdG (upd (hp.1 53) 0 (nI 0)) k))
    generalize foldR bdG (upd (hp.1 53) 0 (nI 0)) k = g at ih e60
    have e6 : (rI hp 53 g).1 53 (nI 6).toNatClampNeg = nI n := by rw [rI_eq]; exact e60
    refine run hG [22] 60 ?_
    refine And.intro (vp_in_nI (by omega) (by omega)) ?_
    refine And.intro (fun h1 => absurd ?_ (nI_ge hk (by omega))) (fun h1 => ?_)
    · have h1 : (rI hp 53 g).1 53 (nI 6).toNatClampNeg ≤ nI k := h1
      rw [e6] at h1
      exact h1
    refine And.intro ⟨vp_in_nI (by omega) (by omega), vp_in_nI (by omega) (by omega)⟩ ?_
    refine And.intro ⟨vp_in_nI (by omega) (by omega), vp_in_nI (by omega) (by omega)⟩ ?_
    refine And.intro ⟨vp_in_nI (by omega) (by omega), vp_in_nI (by omega) (by omega)⟩ ?_
    refine cl_lv hG [(2, vI (nI k + nI 1)), (1, vI (hp.1 53 6 - hmV (hp.1 53))), (0, vR 5 52)] ⟨rfl, rfl, rfl, trivial⟩ ?_
    rw [nI_s]
    show G 22 _ [] (uI (uI (rI hp 53 g) 53 (144 + 5 * (nI k).toNatClampNeg + 2) ((rI hp 53 g).1 53 (144 + 5 * (nI k).toNatClampNeg + 1))) 53 (144 + 5 * (nI k).toNatClampNeg + 4) (nI 0))
    rw [uI_rI, uI_rI, rI_eq, ek]
    exact ih) 0 (by omega)
  refine run hG [22] 60 ?_
  refine And.intro (vp_in_nI (by omega) (by omega)) ?_
  refine And.intro hm ?_
  refine And.intro (vp_in_nI (by omega) (by omega)) ?_
  exact cl_use hG key ⟨rfl, rfl, rfl, trivial⟩
theorem sc_X5_bed {own : String} {F L idx : Nat} (h1 : Cond.methodLink own idx yX5_bed ∈ Gw) (hF : 3 ≤ F) (hL : 68 ≤ L) : SC own F L (idx, false, 1, sp_X5_bed) := SC_V spH_mono c_X5_bed okd_5 (fun as hp K h => by obtain ⟨x, hx, -⟩ := spH_e h; exact ⟨_, _, d_M_e hx⟩) h1 gw_1054 gw_1055 gw_75 gw_1056 (by decide +kernel) hF hL
def F_seed (v : Int32) (hp : HP) : Int32 × HP := (hp.1 53 (nI 1).toNatClampNeg, uI hp 53 (nI 1).toNatClampNeg v)
def sp_X5_seed : SP := spH d_M_I (fun _ _ => True) (fun x hp => some (vI (F_seed x hp).1)) (fun x hp => (F_seed x hp).2)
def E_X5_seed : EN := [(83, false, 3, sp_X5_puts)]
set_option maxRecDepth 100000 in
set_option maxHeartbeats 4000000 in
theorem c_X5_seed : Ctr M_X5_seed sp_X5_seed := by
  refine ctr_of (own := RX5) M_X5_seed sp_X5_seed (P := P_X5_seed) (K := K_X5) (E := E_X5_seed) (by decide) rfl pk_X5_seed K_X5_ok (List.forall_mem_cons.mpr ⟨sc_X5_puts gw_900 (by decide) (by decide), fun _ h => absurd h List.not_mem_nil⟩) (fun as hp Q h => by obtain ⟨x, hx, -⟩ := spH_e h; rw [d_M_I_e hx]; exact Nat.le_of_ble_eq_true rfl) ?_
  intro Q G hQi hG as hp h
  obtain ⟨x, hx, hpre, hQ⟩ := spH_e h
  rw [d_M_I_e hx]
  clear h hx
  refine run hG [] 60 ?_
  exact And.intro (vp_in_nI (by omega) (by omega)) hQ
theorem sc_X5_seed {own : String} {F L idx : Nat} (h1 : Cond.methodLink own idx yX5_seed ∈ Gw) (hF : 2 ≤ F) (hL : 44 ≤ L) : SC own F L (idx, false, 2, sp_X5_seed) := SC_V spH_mono c_X5_seed okd_5 (fun as hp K h => by obtain ⟨x, hx, -⟩ := spH_e h; exact ⟨_, _, d_M_I_e hx⟩) h1 gw_1062 gw_1063 gw_75 gw_1064 (by decide +kernel) hF hL
def F_now (k : Int32) (hp : HP) : Int32 × HP := if k = nI 0 then (hp.1 53 0, hp) else if k = nI 1 then (hp.1 53 2, hp) else if k = nI 2 then (hp.1 53 3, hp) else if k = nI 3 then (awV (hp.1 53), hp) else if k = nI 4 then (onesV (rvV (hp.1 53)), hp) else if k = nI 5 then (hmV (hp.1 53), hp) else noP hp 0
def sp_X5_now : SP := spH d_M_I (fun _ hp => WF (hp.1 53)) (fun x hp => some (vI (F_now x hp).1)) (fun x hp => (F_now x hp).2)
theorem eq_toInt {x : Int32} {n : Nat} (hn : n < 2 ^ 31) (h : x.toInt = (n : Int)) : x = nI n := by
  apply Int32.toInt_inj.mp
  rw [h, nI_toInt hn]
theorem ne_toInt {x : Int32} {n : Nat} (hn : n < 2 ^ 31) (h : x.toInt ≠ (n : Int)) : ¬ x = nI n := fun e => h (by rw [e, nI_toInt hn])
def E_X5_now : EN := [(161, false, 1, sp_X5_awake), (151, false, 1, sp_X5_inRiver), (124, true, 1, sp_X5_ones), (158, false, 1, sp_X5_homeMany), (79, false, 2, sp_X5_no)]
set_option maxRecDepth 100000 in
set_option maxHeartbeats 4000000 in
theorem c_X5_now : Ctr M_X5_now sp_X5_now := by
  refine ctr_of (own := RX5) M_X5_now sp_X5_now (P := P_X5_now) (K := K_X5) (E := E_X5_now) (by decide) rfl pk_X5_now K_X5_ok (List.forall_mem_cons.mpr ⟨sc_X5_awake gw_1069 (by decide) (by decide), List.forall_mem_cons.mpr ⟨sc_X5_inRiver gw_1033 (by decide) (by decide), List.forall_mem_cons.mpr ⟨sc_X5_ones gw_1022 (by decide) (by decide), List.forall_mem_cons.mpr ⟨sc_X5_homeMany gw_1057 (by decide) (by decide), List.forall_mem_cons.mpr ⟨sc_X5_no gw_895 (by decide) (by decide), fun _ h => absurd h List.not_mem_nil⟩⟩⟩⟩⟩) (fun as hp Q h => by obtain ⟨x, hx, -⟩ := spH_e h; rw [d_M_I_e hx]; exact Nat.le_of_ble_eq_true rfl) ?_
  intro Q G hQi hG as hp h
  obtain ⟨x, hx, hpre, hQ⟩ := spH_e h
  rw [d_M_I_e hx]
  clear h hx
  unfold F_now at hQ
  refine run hG [] 60 ?_
  refine And.intro (fun hz => ?_) (And.intro (fun hz => ?_) (And.intro (fun hz => ?_) (And.intro (fun hz => ?_) (And.intro (fun hz => ?_) (And.intro (fun hz => ?_) (fun hz => ?_))))))
  · have e : x = nI 0 := eq_toInt (by omega) hz
    rw [if_pos e] at hQ
    exact And.intro (vp_in_nI (by omega) (by omega)) hQ
  · have e : x = nI 1 := eq_toInt (by omega) hz
    rw [if_neg (by rw [e]; decide), if_pos e] at hQ
    exact And.intro (vp_in_nI (by omega) (by omega)) hQ
  · have e : x = nI 2 := eq_toInt (by omega) hz
    rw [if_neg (by rw [e]; decide), if_neg (by rw [e]; decide), if_pos e] at hQ
    exact And.intro (vp_in_nI (by omega) (by omega)) hQ
  · have e : x = nI 3 := eq_toInt (by omega) hz
    rw [if_neg (by rw [e]; decide), if_neg (by rw [e]; decide), if_neg (by rw [e]; decide), if_pos e] at hQ
    exact And.intro hpre.many hQ
  · have e : x = nI 4 := eq_toInt (by omega) hz
    rw [if_neg (by rw [e]; decide), if_neg (by rw [e]; decide), if_neg (by rw [e]; decide), if_neg (by rw [e]; decide), if_pos e] at hQ
    exact And.intro hpre (And.intro trivial hQ)
  · have e : x = nI 5 := eq_toInt (by omega) hz
    rw [if_neg (by rw [e]; decide), if_neg (by rw [e]; decide), if_neg (by rw [e]; decide), if_neg (by rw [e]; decide), if_neg (by rw [e]; decide), if_pos e] at hQ
    exact And.intro hpre.many hQ
  · have ne : ∀ j : Nat, j < 6 → ¬ x = nI j := fun j hj => ne_toInt (by omega) (by omega)
    rw [if_neg (ne 0 (by omega)), if_neg (ne 1 (by omega)), if_neg (ne 2 (by omega)), if_neg (ne 3 (by omega)), if_neg (ne 4 (by omega)), if_neg (ne 5 (by omega))] at hQ
    exact And.intro (vp_in_nI (by omega) (by omega)) hQ
theorem sc_X5_now {own : String} {F L idx : Nat} (h1 : Cond.methodLink own idx yX5_now ∈ Gw) (hF : 4 ≤ F) (hL : 86 ≤ L) : SC own F L (idx, false, 2, sp_X5_now) := SC_V spH_mono c_X5_now okd_5 (fun as hp K h => by obtain ⟨x, hx, -⟩ := spH_e h; exact ⟨_, _, d_M_I_e hx⟩) h1 gw_1066 gw_1067 gw_75 gw_1068 (by decide +kernel) hF hL
theorem lay2 (hp : HP) (g : Nat → Int32) : rI (rI (rI hp 55 (hp.1 53)) 53 g) 53 (hp.1 53) = rI hp 55 (hp.1 53) := by
  rw [rI_rI, rI_comm hp _ _ (by omega), rI_self]
def F_on (w n : Int32) (hp : HP) : Int32 × HP := if inB w (mN (hp.1 53)) = true ∧ inB n 501 = true then (if ltB (hp.1 53) n = true then noP hp 4 else (goF (hp.1 53) n.toNatClampNeg (144 + 5 * w.toNatClampNeg + 2), rI hp 55 (hp.1 53))) else noP hp 0
def sp_X5_on : SP := spH d_M_II (fun _ hp => WF (hp.1 53)) (fun x hp => some (vI (F_on x.1 x.2 hp).1)) (fun x hp => (F_on x.1 x.2 hp).2)
def E_X5_on : EN := [(107, false, 2, sp_X5_isWalker), (55, true, 3, sp_X5_in), (79, false, 2, sp_X5_no), (148, false, 2, sp_X5_isLate), (164, true, 2, sp_X5_lay), (154, false, 2, sp_X5_go), (59, false, 3, sp_X5_has)]
set_option maxRecDepth 100000 in
set_option maxHeartbeats 4000000 in
theorem c_X5_on : Ctr M_X5_on sp_X5_on := by
  refine ctr_of (own := RX5) M_X5_on sp_X5_on (P := P_X5_on) (K := K_X5) (E := E_X5_on) (by decide) rfl pk_X5_on K_X5_ok (List.forall_mem_cons.mpr ⟨sc_X5_isWalker gw_962 (by decide) (by decide), List.forall_mem_cons.mpr ⟨sc_X5_in gw_883 (by decide) (by decide), List.forall_mem_cons.mpr ⟨sc_X5_no gw_895 (by decide) (by decide), List.forall_mem_cons.mpr ⟨sc_X5_isLate gw_1029 (by decide) (by decide), List.forall_mem_cons.mpr ⟨sc_X5_lay gw_1077 (by decide) (by decide), List.forall_mem_cons.mpr ⟨sc_X5_go gw_1041 (by decide) (by decide), List.forall_mem_cons.mpr ⟨sc_X5_has gw_924 (by decide) (by decide), fun _ h => absurd h List.not_mem_nil⟩⟩⟩⟩⟩⟩⟩) (fun as hp Q h => by obtain ⟨x, hx, -⟩ := spH_e h; rw [d_M_II_e hx]; exact Nat.le_of_ble_eq_true rfl) ?_
  intro Q G hQi hG as hp h
  obtain ⟨x, hx, hpre, hQ⟩ := spH_e h
  rw [d_M_II_e hx]
  clear h hx
  obtain ⟨w, n⟩ := x
  try dsimp only at hpre hQ ⊢
  have ib : (decide (nI 0 ≤ n) && decide (n ≤ nI 500)) = inB n 501 := in_b (by omega)
  have no : ¬ (inB w (mN (hp.1 53)) = true ∧ inB n 501 = true) → Q (some (vI (noP hp 0).1)) (noP hp 0).2 := fun h => by
    have hF : F_on w n hp = noP hp 0 := if_neg h
    rw [hF] at hQ
    exact hQ
  refine run hG [] 60 ?_
  refine And.intro hpre.many ?_
  refine And.intro (fun h1 => ?_) (fun h1 => ?_)
  · refine And.intro (vp_in_nI (by omega) (by omega)) (no (fun h => ?_))
    rw [show inB w (mN (hp.1 53)) = false from bB_0.mp h1] at h
    exact absurd h.1 (by decide)
  · have h1 : inB w (mN (hp.1 53)) = true := bB_1.mp h1
    have hw8 := in8 hpre.many h1
    refine And.intro trivial ?_
    refine And.intro (fun h2 => ?_) (fun h2 => ?_)
    · have h2 : inB n 501 = true := ib ▸ bB_1.mp h2
      have hF : F_on w n hp = _ := if_pos ⟨h1, h2⟩
      rw [hF] at hQ
      refine And.intro trivial ?_
      refine And.intro (fun h3 => ?_) (fun h3 => ?_)
      · have h3 : ltB (hp.1 53) n = false := bB_0.mp h3
        rw [if_neg (by rw [h3]; decide)] at hQ
        have hn : vp_in n 1000 := vp_in_iff.mpr (by have := vp_in_iff.mp (inB_t.mp h2); omega)
        refine And.intro ⟨rfl, rfl, by decide⟩ ?_
        refine And.intro ⟨hpre, hn⟩ ?_
        refine And.intro ⟨hw8, vp_in_nI (by omega) (by omega)⟩ ?_
        refine And.intro ⟨rfl, rfl, by decide⟩ ?_
        refine q_ih hQ ?_ ?_
        · show (rI (rI hp 55 (hp.1 53)) 53 (goF (hp.1 53) n.toNatClampNeg)).1 53 (144 + 5 * w.toNatClampNeg + 2) = _
          rw [rI_eq]
        · exact lay2 hp _
      · have h3 : ltB (hp.1 53) n = true := bB_1.mp h3
        rw [if_pos h3] at hQ
        exact And.intro (vp_in_nI (by omega) (by omega)) hQ
    · refine And.intro (vp_in_nI (by omega) (by omega)) (no (fun h => ?_))
      rw [← ib, show (decide (nI 0 ≤ n) && decide (n ≤ nI 500)) = false from bB_0.mp h2] at h
      exact absurd h.2 (by decide)
theorem sc_X5_on {own : String} {F L idx : Nat} (h1 : Cond.methodLink own idx yX5_on ∈ Gw) (hF : 8 ≤ F) (hL : 183 ≤ L) : SC own F L (idx, false, 3, sp_X5_on) := SC_V spH_mono c_X5_on okd_5 (fun as hp K h => by obtain ⟨x, hx, -⟩ := spH_e h; exact ⟨_, _, d_M_II_e hx⟩) h1 gw_1074 gw_1075 gw_75 gw_1076 (by decide +kernel) hF hL
end
section
def isB (f : Nat → Int32) (k : Int32) (w o : Nat) : Bool := if k = 0 then inR f w else if k = nI 1 then decide (f (144 + 5 * w + 2) = f (144 + 5 * o + 2)) else decide (f (144 + 5 * w + 2) = f (144 + 5 * w + 1))
def sp_X5_is : SP := spP d_M_III (fun x hp => vp_in x.2.1 8 ∧ vp_in x.2.2 8 ∧ vp_in (hp.1 53 (144 + 5 * x.2.1.toNatClampNeg + 2)) 25) (fun x hp => vI (bB (isB (hp.1 53) x.1 x.2.1.toNatClampNeg x.2.2.toNatClampNeg)))
def E_X5_is : EN := [(139, false, 2, sp_X5_isIn), (59, false, 3, sp_X5_has)]
set_option maxRecDepth 100000 in
set_option maxHeartbeats 4000000 in
theorem c_X5_is : Ctr M_X5_is sp_X5_is := by
  refine ctr_of (own := RX5) M_X5_is sp_X5_is (P := P_X5_is) (K := K_X5) (E := E_X5_is) (by decide) rfl pk_X5_is K_X5_ok (List.forall_mem_cons.mpr ⟨sc_X5_isIn gw_1037 (by decide) (by decide), List.forall_mem_cons.mpr ⟨sc_X5_has gw_924 (by decide) (by decide), fun _ h => absurd h List.not_mem_nil⟩⟩) (fun as hp Q h => by obtain ⟨x, hx, -⟩ := spP_e h; rw [d_M_III_e hx]; exact Nat.le_of_ble_eq_true rfl) ?_
  intro Q G hQi hG as hp h
  obtain ⟨x, hx, hpre, hQ⟩ := spP_e h
  rw [d_M_III_e hx]
  clear h hx
  obtain ⟨k, w, o⟩ := x
  try dsimp only at hpre hQ ⊢
  obtain ⟨hw, ho, hpl⟩ := hpre
  unfold isB at hQ
  have c1 : ∀ j, j < 5 → vp_in (nI j) 5 := fun j hj => vp_in_nI hj (by omega)
  refine run hG [] 60 ?_
  refine And.intro (fun h1 => ?_) (fun h1 => ?_)
  · rw [if_neg h1] at hQ
    refine And.intro (fun h2 => ?_) (fun h2 => ?_)
    · rw [if_neg h2] at hQ
      refine And.intro ⟨hw, c1 2 (by omega)⟩ ?_
      refine And.intro ⟨hw, c1 1 (by omega)⟩ ?_
      refine And.intro (fun h3 => ?_) (fun h3 => ?_)
      · have h3 : ¬ hp.1 53 (144 + 5 * w.toNatClampNeg + 2) = hp.1 53 (144 + 5 * w.toNatClampNeg + 1) := h3
        exact q_b hQ (by rw [decide_eq_false h3]; rfl)
      · have h3 : hp.1 53 (144 + 5 * w.toNatClampNeg + 2) = hp.1 53 (144 + 5 * w.toNatClampNeg + 1) := h3
        exact q_b hQ (by rw [decide_eq_true h3]; rfl)
    · rw [if_pos h2] at hQ
      refine And.intro ⟨hw, c1 2 (by omega)⟩ ?_
      refine And.intro ⟨ho, c1 2 (by omega)⟩ ?_
      refine And.intro (fun h3 => ?_) (fun h3 => ?_)
      · have h3 : ¬ hp.1 53 (144 + 5 * w.toNatClampNeg + 2) = hp.1 53 (144 + 5 * o.toNatClampNeg + 2) := h3
        exact q_b hQ (by rw [decide_eq_false h3]; rfl)
      · have h3 : hp.1 53 (144 + 5 * w.toNatClampNeg + 2) = hp.1 53 (144 + 5 * o.toNatClampNeg + 2) := h3
        exact q_b hQ (by rw [decide_eq_true h3]; rfl)
  · rw [if_pos h1] at hQ
    refine And.intro ⟨hw, hpl⟩ ?_
    exact q_b hQ rfl
theorem sc_X5_is {own : String} {F L idx : Nat} (h1 : Cond.methodLink own idx yX5_is ∈ Gw) (hF : 3 ≤ F) (hL : 66 ≤ L) : SC own F L (idx, false, 4, sp_X5_is) := SC_V spP_mono c_X5_is okd_5 (fun as hp K h => by obtain ⟨x, hx, -⟩ := spP_e h; exact ⟨_, _, d_M_III_e hx⟩) h1 gw_1090 gw_46 gw_75 gw_1091 (by decide +kernel) hF hL
/-- the first from k on, of n, for which it holds; else the end -/
def fst_ (p : Nat → Bool) : Nat → Nat → Nat
  | 0, k => k
  | n + 1, k => if p k = true then k else fst_ p n (k + 1)
theorem fst_le (p : Nat → Bool) : ∀ n k, k ≤ fst_ p n k ∧ fst_ p n k ≤ k + n
  | 0, k => ⟨Nat.le_refl _, Nat.le_refl _⟩
  | n + 1, k => by
    unfold fst_
    split
    · exact ⟨Nat.le_refl _, by omega⟩
    · have := fst_le p n (k + 1)
      omega
def snP (f : Nat → Int32) (k : Int32) (w o : Nat) : Nat → Bool := fun n => isB (goF f n) k w o
def snN (f : Nat → Int32) (k : Int32) (w o : Nat) : Nat := if k = nI 2 then fst_ (snP f k w o) 499 1 else fst_ (snP f k w o) 500 0
def snR (f : Nat → Int32) (k : Int32) (w o : Nat) (hp : HP) (n : Nat) : Int32 × HP := if snP f k w o n = true then (nI n, rI hp 55 f) else noP (rI hp 55 f) 3
def F_soon (k w o : Int32) (hp : HP) : Int32 × HP := if ltB (hp.1 53) (nI 500) = true then noP hp 4 else snR (hp.1 53) k w.toNatClampNeg o.toNatClampNeg hp (snN (hp.1 53) k w.toNatClampNeg o.toNatClampNeg)
def sp_X5_soonest : SP := spH d_M_III (fun x hp => WF (hp.1 53) ∧ vp_in x.2.1 (mN (hp.1 53)) ∧ vp_in x.2.2 (mN (hp.1 53))) (fun x hp => some (vI (F_soon x.1 x.2.1 x.2.2 hp).1)) (fun x hp => (F_soon x.1 x.2.1 x.2.2 hp).2)
theorem in_mono {x : Int32} {a b : Nat} (h : vp_in x a) (hab : a ≤ b) : vp_in x b := by
  have := vp_in_iff.mp h
  exact vp_in_iff.mpr (by omega)
def E_X5_soonest : EN := [(148, false, 2, sp_X5_isLate), (79, false, 2, sp_X5_no), (164, true, 2, sp_X5_lay), (145, false, 1, sp_X5_minute), (168, false, 4, sp_X5_is)]
set_option maxRecDepth 100000 in
set_option maxHeartbeats 4000000 in
theorem c_X5_soonest : Ctr M_X5_soonest sp_X5_soonest := by
  refine ctr_of (own := RX5) M_X5_soonest sp_X5_soonest (P := P_X5_soonest) (K := K_X5) (E := E_X5_soonest) (by decide) rfl pk_X5_soonest K_X5_ok (List.forall_mem_cons.mpr ⟨sc_X5_isLate gw_1029 (by decide) (by decide), List.forall_mem_cons.mpr ⟨sc_X5_no gw_895 (by decide) (by decide), List.forall_mem_cons.mpr ⟨sc_X5_lay gw_1077 (by decide) (by decide), List.forall_mem_cons.mpr ⟨sc_X5_minute gw_1045 (by decide) (by decide), List.forall_mem_cons.mpr ⟨sc_X5_is gw_1088 (by decide) (by decide), fun _ h => absurd h List.not_mem_nil⟩⟩⟩⟩⟩) (fun as hp Q h => by obtain ⟨x, hx, -⟩ := spH_e h; rw [d_M_III_e hx]; exact Nat.le_of_ble_eq_true rfl) ?_
  intro Q G hQi hG as hp h
  obtain ⟨x, hx, hpre, hQ⟩ := spH_e h
  rw [d_M_III_e hx]
  clear h hx
  obtain ⟨k, w, o⟩ := x
  try dsimp only at hpre hQ ⊢
  obtain ⟨hwf, hw, ho⟩ := hpre
  have h8 := mN_lt hwf
  have hw8 := in_mono hw h8
  have ho8 := in_mono ho h8
  unfold F_soon at hQ
  generalize hf : hp.1 53 = f at hwf hw ho hQ h8
  have plk : ∀ n, vp_in (goF f n (144 + 5 * w.toNatClampNeg + 2)) 25 := fun n => by
    have hg := hwf.go n
    exact (hg.1.wk (w := w.toNatClampNeg) (by rw [show (goF f n 6).toNatClampNeg = mN (goF f n) from rfl, hg.2]; exact ix_lt hw)).2.2.1
  have eheap : ∀ n, rI (rI (rI hp 55 f) 53 (goF f n)) 53 f = rI hp 55 f := fun n => by rw [← hf]; exact lay2 hp _
  have ea : ∀ n, (rI (rI hp 55 f) 53 (goF f n)).1 53 = goF f n := fun n => rI_eq _ _ _
  have ea5 : ∀ n, (rI (rI hp 55 f) 53 (goF f n)).1 55 = f := fun n => by rw [rI_ne _ _ (by omega), rI_eq]
  have end70 : ∀ n, n ≤ 500 → Q (some (vI (snR f k w.toNatClampNeg o.toNatClampNeg hp n).1)) (snR f k w.toNatClampNeg o.toNatClampNeg hp n).2 → G 70 [(4, vI (nI n)), (0, vR 5 52), (1, vI k), (2, vI w), (3, vI o)] [] (rI (rI hp 55 f) 53 (goF f n)) := by
    intro n hn hQ
    unfold snR snP at hQ
    refine run hG [42, 70] 60 ?_
    refine And.intro ⟨hw8, ho8, show vp_in ((rI (rI hp 55 f) 53 (goF f n)).1 53 (144 + 5 * w.toNatClampNeg + 2)) 25 by rw [ea]; exact plk n⟩ ?_
    refine And.intro ⟨rfl, rfl, by decide⟩ ?_
    have eh : rI (rI (rI hp 55 f) 53 (goF f n)) 53 ((rI (rI hp 55 f) 53 (goF f n)).1 55) = rI hp 55 f := by rw [ea5, eheap]
    refine And.intro (fun h1 => ?_) (fun h1 => ?_)
    · have h1 : isB ((rI (rI hp 55 f) 53 (goF f n)).1 53) k w.toNatClampNeg o.toNatClampNeg = false := bB_0.mp h1
      rw [ea] at h1
      rw [if_neg (by rw [h1]; decide)] at hQ
      refine And.intro (vp_in_nI (by omega) (by omega)) ?_
      rw [← eh] at hQ
      exact hQ
    · have h1 : isB ((rI (rI hp 55 f) 53 (goF f n)).1 53) k w.toNatClampNeg o.toNatClampNeg = true := bB_1.mp h1
      rw [ea] at h1
      rw [if_pos h1, ← eh] at hQ
      exact hQ
  have key : ∀ k0, k0 ≤ 500 → Q (some (vI (snR f k w.toNatClampNeg o.toNatClampNeg hp (fst_ (snP f k w.toNatClampNeg o.toNatClampNeg) (500 - k0) k0)).1)) (snR f k w.toNatClampNeg o.toNatClampNeg hp (fst_ (snP f k w.toNatClampNeg o.toNatClampNeg) (500 - k0) k0)).2 → G 42 [(4, vI (nI k0)), (0, vR 5 52), (1, vI k), (2, vI w), (3, vI o)] [] (rI (rI hp 55 f) 53 (goF f k0)) := by
    refine for_up (P := fun n => Q (some (vI (snR f k w.toNatClampNeg o.toNatClampNeg hp (fst_ (snP f k w.toNatClampNeg o.toNatClampNeg) (500 - n) n)).1)) (snR f k w.toNatClampNeg o.toNatClampNeg hp (fst_ (snP f k w.toNatClampNeg o.toNatClampNeg) (500 - n) n)).2 → G 42 [(4, vI (nI n)), (0, vR 5 52), (1, vI k), (2, vI w), (3, vI o)] [] (rI (rI hp 55 f) 53 (goF f n))) 500 ?_ ?_
    · intro hQ
      have e5 := end70 500 (by omega) hQ
      refine run hG [42, 70] 60 ?_
      exact And.intro (fun h1 => e5) (fun h1 => absurd (nI_le (Nat.le_refl _) (by omega)) h1)
    · intro n hn ih hQ
      have e4 : 500 - n = (500 - (n + 1)) + 1 := by omega
      rw [e4] at hQ
      refine run hG [42, 70] 60 ?_
      refine And.intro (fun h1 => absurd h1 (nI_ge hn (by omega))) (fun h1 => ?_)
      refine And.intro ⟨hw8, ho8, show vp_in ((rI (rI hp 55 f) 53 (goF f n)).1 53 (144 + 5 * w.toNatClampNeg + 2)) 25 by rw [ea]; exact plk n⟩ ?_
      refine And.intro (fun h2 => ?_) (fun h2 => ?_)
      · have h2 : isB ((rI (rI hp 55 f) 53 (goF f n)).1 53) k w.toNatClampNeg o.toNatClampNeg = true := bB_1.mp h2
        rw [ea] at h2
        refine end70 n (by omega) ?_
        have e9 : fst_ (snP f k w.toNatClampNeg o.toNatClampNeg) (500 - (n + 1) + 1) n = n := by
          unfold fst_
          rw [if_pos (show snP f k w.toNatClampNeg o.toNatClampNeg n = true from h2)]
        rw [e9] at hQ
        exact hQ
      · have h2 : isB ((rI (rI hp 55 f) 53 (goF f n)).1 53) k w.toNatClampNeg o.toNatClampNeg = false := bB_0.mp h2
        rw [ea] at h2
        have e9 : fst_ (snP f k w.toNatClampNeg o.toNatClampNeg) (500 - (n + 1) + 1) n = fst_ (snP f k w.toNatClampNeg o.toNatClampNeg) (500 - (n + 1)) (n + 1) := by
          show (if snP f k w.toNatClampNeg o.toNatClampNeg n = true then n else _) = _
          rw [if_neg (by rw [show snP f k w.toNatClampNeg o.toNatClampNeg n = false from h2]; decide)]
        rw [e9] at hQ
        have ih := ih hQ
        refine And.intro (show WF ((rI (rI hp 55 f) 53 (goF f n)).1 53) by rw [ea]; exact (hwf.go n).1) ?_
        refine cl_lv hG [(4, vI (nI n + nI 1)), (0, vR 5 52), (1, vI k), (2, vI w), (3, vI o)] ⟨rfl, rfl, rfl, rfl, rfl, trivial⟩ ?_
        rw [nI_s]
        show G 42 _ [] (rI (rI (rI hp 55 f) 53 (goF f n)) 53 (minF ((rI (rI hp 55 f) 53 (goF f n)).1 53)))
        rw [ea, rI_rI]
        exact ih
  refine run hG [42] 60 ?_
  refine And.intro trivial ?_
  refine And.intro (fun h1 => ?_) (fun h1 => ?_)
  · have h1 : ltB (hp.1 53) (nI 500) = false := bB_0.mp h1
    rw [hf] at h1
    rw [if_neg (by rw [h1]; decide)] at hQ
    refine And.intro ⟨rfl, rfl, by decide⟩ ?_
    unfold snN at hQ
    have e0 : rI hp 55 (hp.1 53) = rI (rI hp 55 f) 53 f := by rw [← hf, rI_comm hp _ _ (by omega), rI_self]
    refine And.intro (fun h2 => ?_) (fun h2 => ?_)
    · rw [if_neg h2] at hQ
      have k9 : G 42 [(4, vI (nI 0)), (0, vR 5 52), (1, vI k), (2, vI w), (3, vI o)] [] (rI (rI hp 55 f) 53 f) := key 0 (by omega) hQ
      rw [← e0] at k9
      exact cl_use hG k9 ⟨rfl, rfl, rfl, rfl, rfl, trivial⟩
    · rw [if_pos h2] at hQ
      have k9 : G 42 [(4, vI (nI 1)), (0, vR 5 52), (1, vI k), (2, vI w), (3, vI o)] [] (rI (rI hp 55 f) 53 (minF f)) := key 1 (by omega) hQ
      have e1 : (rI hp 55 (hp.1 53)).1 53 = f := by rw [rI_ne _ _ (by omega)]; exact hf
      refine And.intro (show WF ((rI hp 55 (hp.1 53)).1 53) by rw [e1]; exact hwf) ?_
      refine cl_lv hG [(4, vI (nI 0 + nI 1)), (0, vR 5 52), (1, vI k), (2, vI w), (3, vI o)] ⟨rfl, rfl, rfl, rfl, rfl, trivial⟩ ?_
      rw [nI_s]
      show G 42 _ [] (rI (rI hp 55 (hp.1 53)) 53 (minF ((rI hp 55 (hp.1 53)).1 53)))
      rw [e1, hf]
      exact k9
  · have h1 : ltB (hp.1 53) (nI 500) = true := bB_1.mp h1
    rw [hf] at h1
    rw [if_pos h1] at hQ
    exact And.intro (vp_in_nI (by omega) (by omega)) hQ
theorem sc_X5_soonest {own : String} {F L idx : Nat} (h1 : Cond.methodLink own idx yX5_soonest ∈ Gw) (hF : 7 ≤ F) (hL : 163 ≤ L) : SC own F L (idx, false, 4, sp_X5_soonest) := SC_V spH_mono c_X5_soonest okd_5 (fun as hp K h => by obtain ⟨x, hx, -⟩ := spH_e h; exact ⟨_, _, d_M_III_e hx⟩) h1 gw_1086 gw_45 gw_75 gw_1087 (by decide +kernel) hF hL
def F_river (w : Int32) (hp : HP) : Int32 × HP := if inB w (mN (hp.1 53)) = true then F_soon (nI 0) w w hp else noP hp 0
def sp_X5_river : SP := spH d_M_I (fun _ hp => WF (hp.1 53)) (fun x hp => some (vI (F_river x hp).1)) (fun x hp => (F_river x hp).2)
def E_X5_river : EN := [(107, false, 2, sp_X5_isWalker), (171, false, 4, sp_X5_soonest), (79, false, 2, sp_X5_no)]
set_option maxRecDepth 100000 in
set_option maxHeartbeats 4000000 in
theorem c_X5_river : Ctr M_X5_river sp_X5_river := by
  refine ctr_of (own := RX5) M_X5_river sp_X5_river (P := P_X5_river) (K := K_X5) (E := E_X5_river) (by decide) rfl pk_X5_river K_X5_ok (List.forall_mem_cons.mpr ⟨sc_X5_isWalker gw_962 (by decide) (by decide), List.forall_mem_cons.mpr ⟨sc_X5_soonest gw_1084 (by decide) (by decide), List.forall_mem_cons.mpr ⟨sc_X5_no gw_895 (by decide) (by decide), fun _ h => absurd h List.not_mem_nil⟩⟩⟩) (fun as hp Q h => by obtain ⟨x, hx, -⟩ := spH_e h; rw [d_M_I_e hx]; exact Nat.le_of_ble_eq_true rfl) ?_
  intro Q G hQi hG as hp h
  obtain ⟨x, hx, hpre, hQ⟩ := spH_e h
  rw [d_M_I_e hx]
  clear h hx
  unfold F_river at hQ
  refine run hG [] 60 ?_
  refine And.intro hpre.many ?_
  refine And.intro (fun h1 => ?_) (fun h1 => ?_)
  · rw [if_neg (by rw [show inB x (mN (hp.1 53)) = false from bB_0.mp h1]; decide)] at hQ
    exact And.intro (vp_in_nI (by omega) (by omega)) hQ
  · have h1 : inB x (mN (hp.1 53)) = true := bB_1.mp h1
    rw [if_pos h1] at hQ
    exact And.intro ⟨hpre, inB_t.mp h1, inB_t.mp h1⟩ hQ
theorem sc_X5_river {own : String} {F L idx : Nat} (h1 : Cond.methodLink own idx yX5_river ∈ Gw) (hF : 8 ≤ F) (hL : 184 ≤ L) : SC own F L (idx, false, 2, sp_X5_river) := SC_V spH_mono c_X5_river okd_5 (fun as hp K h => by obtain ⟨x, hx, -⟩ := spH_e h; exact ⟨_, _, d_M_I_e hx⟩) h1 gw_1081 gw_1082 gw_75 gw_1083 (by decide +kernel) hF hL
def F_home (w : Int32) (hp : HP) : Int32 × HP := if inB w (mN (hp.1 53)) = true then F_soon (nI 2) w w hp else noP hp 0
def sp_X5_home : SP := spH d_M_I (fun _ hp => WF (hp.1 53)) (fun x hp => some (vI (F_home x hp).1)) (fun x hp => (F_home x hp).2)
def E_X5_home : EN := [(107, false, 2, sp_X5_isWalker), (171, false, 4, sp_X5_soonest), (79, false, 2, sp_X5_no)]
set_option maxRecDepth 100000 in
set_option maxHeartbeats 4000000 in
theorem c_X5_home : Ctr M_X5_home sp_X5_home := by
  refine ctr_of (own := RX5) M_X5_home sp_X5_home (P := P_X5_home) (K := K_X5) (E := E_X5_home) (by decide) rfl pk_X5_home K_X5_ok (List.forall_mem_cons.mpr ⟨sc_X5_isWalker gw_962 (by decide) (by decide), List.forall_mem_cons.mpr ⟨sc_X5_soonest gw_1084 (by decide) (by decide), List.forall_mem_cons.mpr ⟨sc_X5_no gw_895 (by decide) (by decide), fun _ h => absurd h List.not_mem_nil⟩⟩⟩) (fun as hp Q h => by obtain ⟨x, hx, -⟩ := spH_e h; rw [d_M_I_e hx]; exact Nat.le_of_ble_eq_true rfl) ?_
  intro Q G hQi hG as hp h
  obtain ⟨x, hx, hpre, hQ⟩ := spH_e h
  rw [d_M_I_e hx]
  clear h hx
  unfold F_home at hQ
  refine run hG [] 60 ?_
  refine And.intro hpre.many ?_
  refine And.intro (fun h1 => ?_) (fun h1 => ?_)
  · rw [if_neg (by rw [show inB x (mN (hp.1 53)) = false from bB_0.mp h1]; decide)] at hQ
    exact And.intro (vp_in_nI (by omega) (by omega)) hQ
  · have h1 : inB x (mN (hp.1 53)) = true := bB_1.mp h1
    rw [if_pos h1] at hQ
    exact And.intro ⟨hpre, inB_t.mp h1, inB_t.mp h1⟩ hQ
theorem sc_X5_home {own : String} {F L idx : Nat} (h1 : Cond.methodLink own idx yX5_home ∈ Gw) (hF : 8 ≤ F) (hL : 184 ≤ L) : SC own F L (idx, false, 2, sp_X5_home) := SC_V spH_mono c_X5_home okd_5 (fun as hp K h => by obtain ⟨x, hx, -⟩ := spH_e h; exact ⟨_, _, d_M_I_e hx⟩) h1 gw_1097 gw_1098 gw_75 gw_1099 (by decide +kernel) hF hL
def F_meet (w o : Int32) (hp : HP) : Int32 × HP := if inB w (mN (hp.1 53)) = true ∧ inB o (mN (hp.1 53)) = true ∧ ¬ w = o then F_soon (nI 1) w o hp else noP hp 0
def sp_X5_meet : SP := spH d_M_II (fun _ hp => WF (hp.1 53)) (fun x hp => some (vI (F_meet x.1 x.2 hp).1)) (fun x hp => (F_meet x.1 x.2 hp).2)
def E_X5_meet : EN := [(107, false, 2, sp_X5_isWalker), (171, false, 4, sp_X5_soonest), (79, false, 2, sp_X5_no)]
set_option maxRecDepth 100000 in
set_option maxHeartbeats 4000000 in
theorem c_X5_meet : Ctr M_X5_meet sp_X5_meet := by
  refine ctr_of (own := RX5) M_X5_meet sp_X5_meet (P := P_X5_meet) (K := K_X5) (E := E_X5_meet) (by decide) rfl pk_X5_meet K_X5_ok (List.forall_mem_cons.mpr ⟨sc_X5_isWalker gw_962 (by decide) (by decide), List.forall_mem_cons.mpr ⟨sc_X5_soonest gw_1084 (by decide) (by decide), List.forall_mem_cons.mpr ⟨sc_X5_no gw_895 (by decide) (by decide), fun _ h => absurd h List.not_mem_nil⟩⟩⟩) (fun as hp Q h => by obtain ⟨x, hx, -⟩ := spH_e h; rw [d_M_II_e hx]; exact Nat.le_of_ble_eq_true rfl) ?_
  intro Q G hQi hG as hp h
  obtain ⟨x, hx, hpre, hQ⟩ := spH_e h
  rw [d_M_II_e hx]
  clear h hx
  obtain ⟨w, o⟩ := x
  try dsimp only at hpre hQ ⊢
  unfold F_meet at hQ
  have no : ¬ (inB w (mN (hp.1 53)) = true ∧ inB o (mN (hp.1 53)) = true ∧ ¬ w = o) → Q (some (vI (noP hp 0).1)) (noP hp 0).2 := fun h => by
    rw [if_neg h] at hQ
    exact hQ
  refine run hG [] 60 ?_
  refine And.intro hpre.many ?_
  refine And.intro (fun h1 => ?_) (fun h1 => ?_)
  · refine And.intro (vp_in_nI (by omega) (by omega)) (no (fun h => ?_))
    rw [show inB w (mN (hp.1 53)) = false from bB_0.mp h1] at h
    exact absurd h.1 (by decide)
  · have h1 : inB w (mN (hp.1 53)) = true := bB_1.mp h1
    refine And.intro hpre.many ?_
    refine And.intro (fun h2 => ?_) (fun h2 => ?_)
    · refine And.intro (vp_in_nI (by omega) (by omega)) (no (fun h => ?_))
      rw [show inB o (mN (hp.1 53)) = false from bB_0.mp h2] at h
      exact absurd h.2.1 (by decide)
    · have h2 : inB o (mN (hp.1 53)) = true := bB_1.mp h2
      refine And.intro (fun h3 => ?_) (fun h3 => ?_)
      · exact And.intro (vp_in_nI (by omega) (by omega)) (no (fun h => h.2.2 h3))
      · rw [if_pos ⟨h1, h2, h3⟩] at hQ
        exact And.intro ⟨hpre, inB_t.mp h1, inB_t.mp h2⟩ hQ
theorem sc_X5_meet {own : String} {F L idx : Nat} (h1 : Cond.methodLink own idx yX5_meet ∈ Gw) (hF : 8 ≤ F) (hL : 185 ≤ L) : SC own F L (idx, false, 3, sp_X5_meet) := SC_V spH_mono c_X5_meet okd_5 (fun as hp K h => by obtain ⟨x, hx, -⟩ := spH_e h; exact ⟨_, _, d_M_II_e hx⟩) h1 gw_1093 gw_1094 gw_75 gw_1095 (by decide +kernel) hF hL
def sfP (f : Nat → Int32) : Nat → Bool := fun n => decide (¬ rvV (goF f n) = rvV f)
def sfB (f : Nat → Int32) (n : Nat) : Bool := !(sfP f (fst_ (sfP f) n 0))
def sp_X5_isSafe : SP := spH d_M_I (fun x hp => WF (hp.1 53) ∧ vp_in x 1000) (fun x hp => some (vI (bB (sfB (hp.1 53) x.toNatClampNeg)))) (fun _ hp => rI hp 55 (hp.1 53))
theorem q_bh {Q : QP} {b : Bool} {y : Int32} {hp hq : HP} (h : Q (some (vI (bB b))) hp) (e : y = bB b) (e2 : hq = hp) : (y = 0 ∨ y = 1) ∧ Q (some (vI y)) hq := by
  subst e e2
  exact ⟨bB_01 b, h⟩
def E_X5_isSafe : EN := [(164, true, 2, sp_X5_lay), (151, false, 1, sp_X5_inRiver), (145, false, 1, sp_X5_minute)]
set_option maxRecDepth 100000 in
set_option maxHeartbeats 4000000 in
theorem c_X5_isSafe : Ctr M_X5_isSafe sp_X5_isSafe := by
  refine ctr_of (own := RX5) M_X5_isSafe sp_X5_isSafe (P := P_X5_isSafe) (K := K_X5) (E := E_X5_isSafe) (by decide) rfl pk_X5_isSafe K_X5_ok (List.forall_mem_cons.mpr ⟨sc_X5_lay gw_1077 (by decide) (by decide), List.forall_mem_cons.mpr ⟨sc_X5_inRiver gw_1033 (by decide) (by decide), List.forall_mem_cons.mpr ⟨sc_X5_minute gw_1045 (by decide) (by decide), fun _ h => absurd h List.not_mem_nil⟩⟩⟩) (fun as hp Q h => by obtain ⟨x, hx, -⟩ := spH_e h; rw [d_M_I_e hx]; exact Nat.le_of_ble_eq_true rfl) ?_
  intro Q G hQi hG as hp h
  obtain ⟨x, hx, hpre, hQ⟩ := spH_e h
  rw [d_M_I_e hx]
  clear h hx
  obtain ⟨hwf, hx⟩ := hpre
  obtain ⟨n, hn, rfl⟩ := vp_in_of hx (by omega)
  rw [nI_clamp (by omega)] at hQ
  unfold sfB at hQ
  generalize hf : hp.1 53 = f at hwf hQ
  have ea : ∀ n, (rI (rI hp 55 f) 53 (goF f n)).1 53 = goF f n := fun n => rI_eq _ _ _
  have eh : ∀ n, rI (rI (rI hp 55 f) 53 (goF f n)) 53 ((rI (rI hp 55 f) 53 (goF f n)).1 55) = rI hp 55 f := fun n => by rw [rI_ne _ _ (by omega), rI_eq, ← hf, lay2]
  have wfa : ∀ n, WF ((rI (rI hp 55 f) 53 (goF f n)).1 53) := fun n => by rw [ea]; exact (hwf.go n).1
  have end41 : ∀ k, Q (some (vI (bB (!(sfP f k))))) (rI hp 55 f) → G 41 [(3, vI (nI k)), (2, vI (rvV f)), (0, vR 5 52), (1, vI (nI n))] [] (rI (rI hp 55 f) 53 (goF f k)) := by
    intro k hQ
    unfold sfP at hQ
    refine run hG [18, 41] 60 ?_
    refine And.intro (wfa k) ?_
    refine And.intro (fun h1 => ?_) (fun h1 => ?_)
    · have h1 : ¬ rvV ((rI (rI hp 55 f) 53 (goF f k)).1 53) = rvV f := h1
      rw [ea] at h1
      refine And.intro ⟨rfl, rfl, by decide⟩ ?_
      exact q_bh hQ (by rw [decide_eq_true h1]; rfl) (eh k)
    · have h1 : rvV ((rI (rI hp 55 f) 53 (goF f k)).1 53) = rvV f := h1
      rw [ea] at h1
      refine And.intro ⟨rfl, rfl, by decide⟩ ?_
      exact q_bh hQ (by rw [decide_eq_false (fun h => h h1)]; rfl) (eh k)
  have key := for_up (P := fun k => Q (some (vI (bB (!(sfP f (fst_ (sfP f) (n - k) k)))))) (rI hp 55 f) → G 18 [(3, vI (nI k)), (2, vI (rvV f)), (0, vR 5 52), (1, vI (nI n))] [] (rI (rI hp 55 f) 53 (goF f k))) n (by
    intro hQ
    rw [Nat.sub_self] at hQ
    have e5 := end41 n hQ
    refine run hG [18, 41] 60 ?_
    exact And.intro (fun h1 => e5) (fun h1 => absurd (nI_le (Nat.le_refl _) (by omega)) h1)) (by
    intro k hk ih hQ
    have e4 : n - k = (n - (k + 1)) + 1 := by omega
    rw [e4] at hQ
    refine run hG [18, 41] 60 ?_
    refine And.intro (fun h1 => absurd h1 (nI_ge hk (by omega))) (fun h1 => ?_)
    refine And.intro (wfa k) ?_
    refine And.intro (fun h2 => ?_) (fun h2 => ?_)
    · have h2 : ¬ rvV ((rI (rI hp 55 f) 53 (goF f k)).1 53) = rvV f := h2
      rw [ea] at h2
      have hp2 : sfP f k = true := decide_eq_true h2
      refine end41 k ?_
      have e9 : fst_ (sfP f) (n - (k + 1) + 1) k = k := by
        unfold fst_
        rw [if_pos hp2]
      rw [e9] at hQ
      exact hQ
    · have h2 : rvV ((rI (rI hp 55 f) 53 (goF f k)).1 53) = rvV f := h2
      rw [ea] at h2
      have hp2 : sfP f k = false := decide_eq_false (fun h => h h2)
      have e9 : fst_ (sfP f) (n - (k + 1) + 1) k = fst_ (sfP f) (n - (k + 1)) (k + 1) := by
        show (if sfP f k = true then k else _) = _
        rw [if_neg (by rw [hp2]; decide)]
      rw [e9] at hQ
      have ih := ih hQ
      refine And.intro (wfa k) ?_
      refine cl_lv hG [(3, vI (nI k + nI 1)), (2, vI (rvV f)), (0, vR 5 52), (1, vI (nI n))] ⟨rfl, rfl, rfl, rfl, trivial⟩ ?_
      rw [nI_s]
      show G 18 _ [] (rI (rI (rI hp 55 f) 53 (goF f k)) 53 (minF ((rI (rI hp 55 f) 53 (goF f k)).1 53)))
      rw [ea, rI_rI]
      exact ih) 0 (by omega) hQ
  have key : G 18 [(3, vI (nI 0)), (2, vI (rvV f)), (0, vR 5 52), (1, vI (nI n))] [] (rI (rI hp 55 f) 53 f) := key
  have e0 : rI hp 55 (hp.1 53) = rI (rI hp 55 f) 53 f := by rw [← hf, rI_comm hp _ _ (by omega), rI_self]
  have e1 : (rI hp 55 (hp.1 53)).1 53 = f := by rw [rI_ne _ _ (by omega)]; exact hf
  refine run hG [18] 60 ?_
  refine And.intro ⟨rfl, rfl, by decide⟩ ?_
  refine And.intro (show WF ((rI hp 55 (hp.1 53)).1 53) by rw [e1]; exact hwf) ?_
  refine cl_lv hG [(3, vI (nI 0)), (2, vI (rvV ((rI hp 55 (hp.1 53)).1 53))), (0, vR 5 52), (1, vI (nI n))] ⟨rfl, rfl, rfl, rfl, trivial⟩ ?_
  show G 18 _ [] (rI hp 55 (hp.1 53))
  rw [e1, e0]
  exact key
theorem sc_X5_isSafe {own : String} {F L idx : Nat} (h1 : Cond.methodLink own idx yX5_isSafe ∈ Gw) (hF : 7 ≤ F) (hL : 162 ≤ L) : SC own F L (idx, false, 2, sp_X5_isSafe) := SC_V spH_mono c_X5_isSafe okd_5 (fun as hp K h => by obtain ⟨x, hx, -⟩ := spH_e h; exact ⟨_, _, d_M_I_e hx⟩) h1 gw_1106 gw_47 gw_75 gw_1107 (by decide +kernel) hF hL
def F_safe (n : Int32) (hp : HP) : Int32 × HP := if nI 1 ≤ n ∧ n ≤ nI 500 then (if ltB (hp.1 53) n = true then noP hp 4 else (bB (sfB (hp.1 53) n.toNatClampNeg), rI hp 55 (hp.1 53))) else noP hp 0
def sp_X5_safe : SP := spH d_M_I (fun _ hp => WF (hp.1 53)) (fun x hp => some (vI (F_safe x hp).1)) (fun x hp => (F_safe x hp).2)
def E_X5_safe : EN := [(55, true, 3, sp_X5_in), (79, false, 2, sp_X5_no), (148, false, 2, sp_X5_isLate), (174, false, 2, sp_X5_isSafe)]
set_option maxRecDepth 100000 in
set_option maxHeartbeats 4000000 in
theorem c_X5_safe : Ctr M_X5_safe sp_X5_safe := by
  refine ctr_of (own := RX5) M_X5_safe sp_X5_safe (P := P_X5_safe) (K := K_X5) (E := E_X5_safe) (by decide) rfl pk_X5_safe K_X5_ok (List.forall_mem_cons.mpr ⟨sc_X5_in gw_883 (by decide) (by decide), List.forall_mem_cons.mpr ⟨sc_X5_no gw_895 (by decide) (by decide), List.forall_mem_cons.mpr ⟨sc_X5_isLate gw_1029 (by decide) (by decide), List.forall_mem_cons.mpr ⟨sc_X5_isSafe gw_1104 (by decide) (by decide), fun _ h => absurd h List.not_mem_nil⟩⟩⟩⟩) (fun as hp Q h => by obtain ⟨x, hx, -⟩ := spH_e h; rw [d_M_I_e hx]; exact Nat.le_of_ble_eq_true rfl) ?_
  intro Q G hQi hG as hp h
  obtain ⟨x, hx, hpre, hQ⟩ := spH_e h
  rw [d_M_I_e hx]
  clear h hx
  unfold F_safe at hQ
  refine run hG [] 60 ?_
  refine And.intro trivial ?_
  refine And.intro (fun h1 => ?_) (fun h1 => ?_)
  · have h1 := and_t.mp (bB_1.mp h1)
    rw [if_pos h1] at hQ
    refine And.intro trivial ?_
    refine And.intro (fun h2 => ?_) (fun h2 => ?_)
    · have h2 : ltB (hp.1 53) x = false := bB_0.mp h2
      rw [if_neg (by rw [h2]; decide)] at hQ
      refine And.intro ⟨hpre, in_k h1 (by omega) (by omega) (by omega)⟩ ?_
      refine And.intro (fun h3 => ?_) (fun h3 => ?_)
      · have h3 : sfB (hp.1 53) x.toNatClampNeg = false := bB_0.mp h3
        rw [h3] at hQ
        exact hQ
      · have h3 : sfB (hp.1 53) x.toNatClampNeg = true := bB_1.mp h3
        rw [h3] at hQ
        exact hQ
    · have h2 : ltB (hp.1 53) x = true := bB_1.mp h2
      rw [if_pos h2] at hQ
      exact And.intro (vp_in_nI (by omega) (by omega)) hQ
  · have h1 := and_f (bB_0.mp h1)
    rw [if_neg h1] at hQ
    exact And.intro (vp_in_nI (by omega) (by omega)) hQ
theorem sc_X5_safe {own : String} {F L idx : Nat} (h1 : Cond.methodLink own idx yX5_safe ∈ Gw) (hF : 8 ≤ F) (hL : 183 ≤ L) : SC own F L (idx, false, 2, sp_X5_safe) := SC_V spH_mono c_X5_safe okd_5 (fun as hp K h => by obtain ⟨x, hx, -⟩ := spH_e h; exact ⟨_, _, d_M_I_e hx⟩) h1 gw_1101 gw_1102 gw_75 gw_1103 (by decide +kernel) hF hL
end
section
/-! doors between the river and what is dry -/
def bkB (f : Nat → Int32) (d : Nat) : Bool := mayB f (d / 2) (d % 2 + 1) && decide (¬ f (69 + d / 2) = f (69 + bsd (d / 2) (d % 2 + 1)))
def bkN (f : Nat → Int32) : Nat → Nat
  | 0 => 0
  | d + 1 => bkN f d + (if bkB f d = true then 1 else 0)
def bkR (f r : Nat → Int32) : Nat → (Nat → Int32)
  | 0 => r
  | d + 1 => if bkB f d = true then upd (bkR f r d) (bkN f d) (nI (dr (d / 2) (d % 2 + 1))) else bkR f r d
theorem bkN_le (f : Nat → Int32) : ∀ d, bkN f d ≤ d
  | 0 => Nat.le_refl _
  | d + 1 => by
    have := bkN_le f d
    show bkN f d + (if bkB f d = true then 1 else 0) ≤ d + 1
    split <;> omega
def sp_X5_banks : SP := spH d_M (fun _ _ => True) (fun _ hp => some (vI (nI (bkN (hp.1 53) 50)))) (fun _ hp => rI hp 58 (bkR (hp.1 53) (hp.1 58) 50))
def E_X5_banks : EN := [(63, true, 2, sp_X5_beside), (103, false, 3, sp_X5_may), (66, true, 2, sp_X5_doorAt)]
set_option maxRecDepth 100000 in
set_option maxHeartbeats 4000000 in
theorem c_X5_banks : Ctr M_X5_banks sp_X5_banks := by
  refine ctr_of (own := RX5) M_X5_banks sp_X5_banks (P := P_X5_banks) (K := K_X5) (E := E_X5_banks) (by decide) rfl pk_X5_banks K_X5_ok (List.forall_mem_cons.mpr ⟨sc_X5_beside gw_889 (by decide) (by decide), List.forall_mem_cons.mpr ⟨sc_X5_may gw_970 (by decide) (by decide), List.forall_mem_cons.mpr ⟨sc_X5_doorAt gw_892 (by decide) (by decide), fun _ h => absurd h List.not_mem_nil⟩⟩⟩) (fun as hp Q h => by obtain ⟨x, hx, -⟩ := spH_e h; rw [d_M_e hx]; exact Nat.le_of_ble_eq_true rfl) ?_
  intro Q G hQi hG as hp h
  obtain ⟨x, hx, hpre, hQ⟩ := spH_e h
  rw [d_M_e hx]
  clear h hx
  generalize hf : hp.1 53 = f at hQ
  generalize hr : hp.1 58 = r at hQ
  have ef : ∀ g, (rI hp 58 g).1 53 = f := fun g => by rw [rI_ne _ _ (by omega)]; exact hf
  have inner : ∀ q, q < 25 → ∀ y, y < 2 → G 12 [(3, vI (nI (y + 2))), (2, vI (nI q)), (1, vI (nI (bkN f (2 * q + y + 1)))), (0, vR 5 52)] [] (rI hp 58 (bkR f r (2 * q + y + 1))) → G 12 [(3, vI (nI (y + 1))), (2, vI (nI q)), (1, vI (nI (bkN f (2 * q + y)))), (0, vR 5 52)] [] (rI hp 58 (bkR f r (2 * q + y))) := by
    intro q hq y hy hn
    have eq : (nI q).toNatClampNeg = q := nI_clamp (by omega)
    have ey : (nI (y + 1)).toNatClampNeg = y + 1 := nI_clamp (by omega)
    have hq0 : vp_in (nI q) 25 := vp_in_nI hq (by omega)
    have hy0 : vp_in (nI (y + 1)) 4 := vp_in_nI (by omega) (by omega)
    have d2 : (2 * q + y) / 2 = q := by omega
    have d3 : (2 * q + y) % 2 + 1 = y + 1 := by omega
    have hle := bkN_le f (2 * q + y)
    have eN : bkN f (2 * q + y + 1) = bkN f (2 * q + y) + (if bkB f (2 * q + y) = true then 1 else 0) := rfl
    have eR : bkR f r (2 * q + y + 1) = if bkB f (2 * q + y) = true then upd (bkR f r (2 * q + y)) (bkN f (2 * q + y)) (nI (dr ((2 * q + y) / 2) ((2 * q + y) % 2 + 1))) else bkR f r (2 * q + y) := rfl
    have eB : bkB f (2 * q + y) = (mayB f q (y + 1) && decide (¬ f (69 + q) = f (69 + bsd q (y + 1)))) := by unfold bkB; rw [d2, d3]
    rw [d2, d3] at eR
    generalize bkR f r (2 * q + y) = g at eR ⊢
    generalize bkN f (2 * q + y) = m at eN eR hle ⊢
    have no : bkB f (2 * q + y) = false → ∀ v, G 12 [(3, vI (nI (y + 1) + nI 1)), (4, v), (2, vI (nI q)), (1, vI (nI m)), (0, vR 5 52)] [] (rI hp 58 g) := by
      intro hb v
      rw [hb, if_neg (by decide)] at eN eR
      rw [eN, eR] at hn
      rw [nI_s]
      exact cl_use hG hn ⟨rfl, rfl, rfl, rfl, trivial⟩
    refine run hG [4, 12] 60 ?_
    refine And.intro (fun h1 => absurd h1 (nI_ge (by omega) (by omega))) (fun h1 => ?_)
    refine And.intro ⟨hq0, hy0⟩ ?_
    have ev : bsV (nI q).toNatClampNeg (nI (y + 1)).toNatClampNeg = bsV q (y + 1) := by rw [eq, ey]
    refine And.intro (fun h2 => ?_) (fun h2 => ?_)
    · have h2 : bsV (nI q).toNatClampNeg (nI (y + 1)).toNatClampNeg < 0 := h2
      rw [ev, bsV_neg q hq _ (by omega)] at h2
      refine cl_use hG (no ?_ (vI (bsV (nI q).toNatClampNeg (nI (y + 1)).toNatClampNeg))) ⟨rfl, rfl, rfl, rfl, rfl, trivial⟩
      rw [eB]
      unfold mayB
      rw [h2]
      rfl
    · refine And.intro ⟨hq0, hy0⟩ ?_
      refine And.intro (fun h3 => ?_) (fun h3 => ?_)
      · have h3 : mayB ((rI hp 58 g).1 53) (nI q).toNatClampNeg (nI (y + 1)).toNatClampNeg = false := bB_0.mp h3
        rw [ef, eq, ey] at h3
        refine cl_use hG (no ?_ (vI (bsV (nI q).toNatClampNeg (nI (y + 1)).toNatClampNeg))) ⟨rfl, rfl, rfl, rfl, rfl, trivial⟩
        rw [eB, h3]
        rfl
      · have h3 : mayB ((rI hp 58 g).1 53) (nI q).toNatClampNeg (nI (y + 1)).toNatClampNeg = true := bB_1.mp h3
        rw [ef, eq, ey] at h3
        have hb := may_bsd h3
        have hb25 : bsd q (y + 1) < 25 := by rcases bsd_lt q hq (y + 1) (by omega) with h | h <;> omega
        have e1 : nI 69 + nI q = nI (69 + q) := nI_add _ _
        have e2 : nI 69 + bsV (nI q).toNatClampNeg (nI (y + 1)).toNatClampNeg = nI (69 + bsd q (y + 1)) := by rw [ev, bsV_may hb, nI_add]
        refine And.intro (show vp_in (nI 69 + nI q) 184 by rw [e1]; exact vp_in_nI (by omega) (by omega)) ?_
        refine And.intro (show vp_in (nI 69 + bsV (nI q).toNatClampNeg (nI (y + 1)).toNatClampNeg) 184 by rw [e2]; exact vp_in_nI (by omega) (by omega)) ?_
        refine And.intro (fun h4 => ?_) (fun h4 => ?_)
        · have h4 : (rI hp 58 g).1 53 (nI 69 + nI q).toNatClampNeg = (rI hp 58 g).1 53 (nI 69 + bsV (nI q).toNatClampNeg (nI (y + 1)).toNatClampNeg).toNatClampNeg := h4
          rw [ef, e1, e2, nI_clamp (by omega), nI_clamp (by omega)] at h4
          refine cl_use hG (no ?_ (vI (bsV (nI q).toNatClampNeg (nI (y + 1)).toNatClampNeg))) ⟨rfl, rfl, rfl, rfl, rfl, trivial⟩
          rw [eB, h3, decide_eq_false (fun h => h h4)]
          rfl
        · have h4 : ¬ (rI hp 58 g).1 53 (nI 69 + nI q).toNatClampNeg = (rI hp 58 g).1 53 (nI 69 + bsV (nI q).toNatClampNeg (nI (y + 1)).toNatClampNeg).toNatClampNeg := h4
          rw [ef, e1, e2, nI_clamp (by omega), nI_clamp (by omega)] at h4
          have hyes : bkB f (2 * q + y) = true := by rw [eB, h3, decide_eq_true h4]; rfl
          rw [hyes, if_pos rfl] at eN eR
          refine And.intro ⟨hq0, hy0⟩ ?_
          refine And.intro (vp_in_nI (by omega) (by omega)) ?_
          refine cl_lv hG [(3, vI (nI (y + 1) + nI 1)), (2, vI (nI q)), (1, vI (nI m + nI 1)), (0, vR 5 52)] ⟨rfl, rfl, rfl, rfl, trivial⟩ ?_
          rw [nI_s, nI_s, ← eN]
          show G 12 _ [] (uI (rI hp 58 g) 58 (nI m).toNatClampNeg (nI (dr (nI q).toNatClampNeg (nI (y + 1)).toNatClampNeg)))
          rw [uI_rI, nI_clamp (by omega), eq, ey, ← eR]
          exact hn
  have key := for_up (P := fun q => G 4 [(2, vI (nI q)), (1, vI (nI (bkN f (2 * q)))), (0, vR 5 52)] [] (rI hp 58 (bkR f r (2 * q)))) 25 (by
    refine run hG [4] 60 ?_
    exact And.intro (fun h1 => hQ) (fun h1 => absurd (nI_le (Nat.le_refl _) (by omega)) h1)) (by
    intro q hq ih
    refine run hG [4, 12] 60 ?_
    refine And.intro (fun h1 => absurd h1 (nI_ge hq (by omega))) (fun h1 => ?_)
    refine cl_lv hG [(3, vI (nI (0 + 1))), (2, vI (nI q)), (1, vI (nI (bkN f (2 * q)))), (0, vR 5 52)] ⟨rfl, rfl, rfl, rfl, trivial⟩ ?_
    refine inner q hq 0 (by omega) ?_
    refine inner q hq 1 (by omega) ?_
    refine run hG [4, 12] 60 ?_
    refine And.intro (fun h1 => ?_) (fun h1 => absurd (nI_le (Nat.le_refl _) (by omega)) h1)
    refine cl_lv hG [(2, vI (nI q + nI 1)), (1, vI (nI (bkN f (2 * (q + 1))))), (0, vR 5 52)] ⟨rfl, rfl, rfl, trivial⟩ ?_
    rw [nI_s]
    exact ih) 0 (by omega)
  have key : G 4 [(2, vI (nI 0)), (1, vI (nI 0)), (0, vR 5 52)] [] (rI hp 58 r) := key
  rw [← hr, rI_self] at key
  refine run hG [4] 60 ?_
  exact cl_use hG key ⟨rfl, rfl, rfl, trivial⟩
theorem sc_X5_banks {own : String} {F L idx : Nat} (h1 : Cond.methodLink own idx yX5_banks ∈ Gw) (hF : 3 ≤ F) (hL : 67 ≤ L) : SC own F L (idx, false, 1, sp_X5_banks) := SC_V spH_mono c_X5_banks okd_5 (fun as hp K h => by obtain ⟨x, hx, -⟩ := spH_e h; exact ⟨_, _, d_M_e hx⟩) h1 gw_1114 gw_48 gw_75 gw_1115 (by decide +kernel) hF hL
/-- the doors of a set shut, or open again -/
def setB (f b : Nat → Int32) (s : Int32) : Nat → (Nat → Int32)
  | 0 => f
  | k + 1 => upd (setB f b s k) (b k).toNatClampNeg (s >>> (nI k &&& 31) &&& nI 1)
def opnB (f b : Nat → Int32) : Nat → (Nat → Int32)
  | 0 => f
  | k + 1 => upd (opnB f b k) (b k).toNatClampNeg (nI 0)
def bkOK (f b : Nat → Int32) (m : Nat) : Prop := m ≤ 12 ∧ ∀ k, k < m → ∃ d, 94 ≤ d ∧ d < 144 ∧ b k = nI d ∧ f d = nI 0
theorem setB_out {f b : Nat → Int32} {s : Int32} {d : Nat} : ∀ {m : Nat}, (∀ k, k < m → (b k).toNatClampNeg ≠ d) → setB f b s m d = f d
  | 0, _ => rfl
  | m + 1, h => by
    show upd (setB f b s m) (b m).toNatClampNeg _ d = _
    rw [pk_un (Ne.symm (h m (by omega)))]
    exact setB_out (fun k hk => h k (by omega))
theorem opn_set {f b : Nat → Int32} {s : Int32} {M : Nat} (h : bkOK f b M) : ∀ {m : Nat}, M ≤ m → m ≤ M → opnB (setB f b s M) b m = f := by
  intro m h1 h2
  have e : m = M := by omega
  subst e
  funext d
  have key : ∀ n, n ≤ m → opnB (setB f b s m) b n d = if ∃ k, k < n ∧ (b k).toNatClampNeg = d then nI 0 else setB f b s m d := by
    intro n
    induction n with
    | zero =>
      intro _
      rw [if_neg (fun ⟨k, hk, _⟩ => Nat.not_lt_zero k hk)]
      rfl
    | succ n ih =>
      intro hn
      show upd (opnB (setB f b s m) b n) (b n).toNatClampNeg (nI 0) d = _
      rw [upd_at]
      by_cases hd : d = (b n).toNatClampNeg
      · rw [if_pos hd, if_pos ⟨n, by omega, hd.symm⟩]
      · rw [if_neg hd, ih (by omega)]
        by_cases hex : ∃ k, k < n ∧ (b k).toNatClampNeg = d
        · obtain ⟨k, hk, e⟩ := hex
          rw [if_pos ⟨k, hk, e⟩, if_pos ⟨k, by omega, e⟩]
        · have hex2 : ¬ ∃ k, k < n + 1 ∧ (b k).toNatClampNeg = d := by
            rintro ⟨k, hk, e⟩
            rcases Nat.lt_or_ge k n with h3 | h3
            · exact hex ⟨k, h3, e⟩
            · have : k = n := by omega
              subst this
              exact hd e.symm
          rw [if_neg hex, if_neg hex2]
  rw [key m (Nat.le_refl _)]
  by_cases hex : ∃ k, k < m ∧ (b k).toNatClampNeg = d
  · rw [if_pos hex]
    obtain ⟨k, hk, e⟩ := hex
    obtain ⟨d2, h3, h4, h5, h6⟩ := h.2 k hk
    rw [h5, nI_clamp (by omega)] at e
    rw [← e, h6]
  · rw [if_neg hex, setB_out (fun k hk e => hex ⟨k, hk, e⟩)]
theorem bit1 (s : Int32) (k : Nat) (hk : k < 32) : vp_in (s >>> (nI k &&& 31) &&& nI 1) 2 := by
  generalize s >>> (nI k &&& 31) = t
  have h : (t &&& nI 1).toBitVec = t.toBitVec &&& 1#32 := rfl
  have h2 : (t &&& nI 1).toBitVec.toNat < 2 := by
    rw [h, BitVec.toNat_and]
    have : t.toBitVec.toNat &&& (1#32).toNat ≤ (1#32).toNat := Nat.and_le_right
    have e : (1#32).toNat = 1 := rfl
    omega
  rw [vp_in_iff]
  have h3 : (t &&& nI 1).toInt = ((t &&& nI 1).toBitVec.toNat : Int) := by
    show (t &&& nI 1).toBitVec.toInt = _
    rw [BitVec.toInt_eq_toNat_cond, if_pos (by omega)]
  omega
theorem WF.flag {f : Nat → Int32} (h : WF f) {d : Nat} {v : Int32} (h1 : 44 ≤ d) (h2 : d < 144) (hv : vp_in v 2) : WF (upd f d v) ∧ mN (upd f d v) = mN f := by
  have h8 := mN_lt h
  have hwk := fun u hu => h.wk (w := u) hu
  obtain ⟨⟨n, hn, e6, hws⟩, hfl, r, hr, e5, hrs, h4⟩ := h
  refine ⟨⟨⟨n, hn, by rw [pk_un (by omega)]; exact e6, fun w hw => ?_⟩, fun k a b => ?_, r, hr, by rw [pk_un (by omega)]; exact e5, fun k hk => by rw [pk_un (by omega)]; exact hrs k hk, by rw [pk_un (by omega)]; exact h4⟩, ?_⟩
  · have := hws w hw
    unfold wkOK at this ⊢
    rw [pk_un (by omega), pk_un (by omega), pk_un (by omega), pk_un (by omega), pk_un (by omega)]
    exact this
  · rw [upd_at]
    split
    · exact hv
    · exact hfl k a b
  · unfold mN
    rw [pk_un (by omega)]
theorem WF_setB {f b : Nat → Int32} {M : Nat} (h : WF f) (hb : bkOK f b M) (s : Int32) : ∀ {m : Nat}, m ≤ M → WF (setB f b s m) ∧ mN (setB f b s m) = mN f
  | 0, _ => ⟨h, rfl⟩
  | m + 1, hm => by
    have ih := WF_setB h hb s (m := m) (by omega)
    obtain ⟨d, h3, h4, h5, -⟩ := hb.2 m (by omega)
    have hM := hb.1
    have := ih.1.flag (d := (b m).toNatClampNeg) (v := s >>> (nI m &&& 31) &&& nI 1) (by rw [h5, nI_clamp (by omega)]; omega) (by rw [h5, nI_clamp (by omega)]; omega) (bit1 s m (by omega))
    exact ⟨this.1, this.2.trans ih.2⟩
def sp_X5_isSafeBy : SP := spH d_M_III (fun x hp => WF (hp.1 53) ∧ vp_in x.2.1 13 ∧ bkOK (hp.1 53) (hp.1 58) x.2.1.toNatClampNeg ∧ vp_in x.2.2 1000) (fun x hp => some (vI (bB (sfB (setB (hp.1 53) (hp.1 58) x.1 x.2.1.toNatClampNeg) x.2.2.toNatClampNeg)))) (fun x hp => rI hp 55 (setB (hp.1 53) (hp.1 58) x.1 x.2.1.toNatClampNeg))
def E_X5_isSafeBy : EN := [(174, false, 2, sp_X5_isSafe)]
set_option maxRecDepth 100000 in
set_option maxHeartbeats 4000000 in
theorem c_X5_isSafeBy : Ctr M_X5_isSafeBy sp_X5_isSafeBy := by
  refine ctr_of (own := RX5) M_X5_isSafeBy sp_X5_isSafeBy (P := P_X5_isSafeBy) (K := K_X5) (E := E_X5_isSafeBy) (by decide) rfl pk_X5_isSafeBy K_X5_ok (List.forall_mem_cons.mpr ⟨sc_X5_isSafe gw_1104 (by decide) (by decide), fun _ h => absurd h List.not_mem_nil⟩) (fun as hp Q h => by obtain ⟨x, hx, -⟩ := spH_e h; rw [d_M_III_e hx]; exact Nat.le_of_ble_eq_true rfl) ?_
  intro Q G hQi hG as hp h
  obtain ⟨x, hx, hpre, hQ⟩ := spH_e h
  rw [d_M_III_e hx]
  clear h hx
  obtain ⟨s, m, n⟩ := x
  try dsimp only at hpre hQ ⊢
  obtain ⟨hwf, hm0, hbk, hn⟩ := hpre
  obtain ⟨m, hm, rfl⟩ := vp_in_of hm0 (by omega)
  rw [nI_clamp (by omega)] at hQ hbk
  generalize hf : hp.1 53 = f at hwf hbk hQ
  generalize hb : hp.1 58 = b at hbk hQ
  have bk58 : ∀ g c, c ≠ 58 → (rI hp c g).1 58 = b := fun g c hc => by rw [rI_ne _ _ (Ne.symm hc)]; exact hb
  have hin : ∀ k, k < m → vp_in (b k) 184 := fun k hk => by
    obtain ⟨d, h3, h4, h5, -⟩ := hbk.2 k hk
    rw [h5]
    exact vp_in_nI (by omega) (by omega)
  have hwa := fun k (hk : k ≤ m) => WF_setB hwf hbk s (m := k) hk
  generalize hz : setB f b s m = z at hQ
  have open_ := for_up (P := fun k => G 43 [(5, vI (nI k)), (4, vI (bB (sfB z n.toNatClampNeg))), (0, vR 5 52), (1, vI s), (2, vI (nI m)), (3, vI n)] [] (rI (rI hp 55 z) 53 (opnB z b k))) m (by
    refine run hG [43] 60 ?_
    refine And.intro (fun h1 => ?_) (fun h1 => absurd (nI_le (Nat.le_refl _) (by omega)) h1)
    refine q_bh hQ rfl ?_
    have e : opnB z b m = f := by rw [← hz]; exact opn_set hbk (Nat.le_refl _) (Nat.le_refl _)
    rw [e, ← hf, rI_comm hp _ _ (by omega), rI_self]) (by
    intro k hk ih
    have ek : (nI k).toNatClampNeg = k := nI_clamp (by omega)
    have e58 : (rI (rI hp 55 z) 53 (opnB z b k)).1 58 (nI k).toNatClampNeg = b k := by rw [rI_ne _ _ (by omega), bk58 _ _ (by omega), ek]
    refine run hG [43] 60 ?_
    refine And.intro (fun h1 => absurd h1 (nI_ge hk (by omega))) (fun h1 => ?_)
    have h12 := hbk.1
    refine And.intro (vp_in_nI (by omega) (by omega)) ?_
    refine And.intro (show vp_in ((rI (rI hp 55 z) 53 (opnB z b k)).1 58 (nI k).toNatClampNeg) 184 by rw [e58]; exact hin k hk) ?_
    refine cl_lv hG [(5, vI (nI k + nI 1)), (4, vI (bB (sfB z n.toNatClampNeg))), (0, vR 5 52), (1, vI s), (2, vI (nI m)), (3, vI n)] ⟨rfl, rfl, rfl, rfl, rfl, rfl, trivial⟩ ?_
    rw [nI_s]
    show G 43 _ [] (uI (rI (rI hp 55 z) 53 (opnB z b k)) 53 ((rI (rI hp 55 z) 53 (opnB z b k)).1 58 (nI k).toNatClampNeg).toNatClampNeg (nI 0))
    rw [e58, uI_rI]
    exact ih) 0 (by omega)
  have open_ : G 43 [(5, vI (nI 0)), (4, vI (bB (sfB z n.toNatClampNeg))), (0, vR 5 52), (1, vI s), (2, vI (nI m)), (3, vI n)] [] (rI (rI hp 55 z) 53 z) := open_
  have shut := for_up (P := fun k => G 3 [(4, vI (nI k)), (0, vR 5 52), (1, vI s), (2, vI (nI m)), (3, vI n)] [] (rI hp 53 (setB f b s k))) m (by
    refine run hG [3, 43] 60 ?_
    refine And.intro (fun h1 => ?_) (fun h1 => absurd (nI_le (Nat.le_refl _) (by omega)) h1)
    have e1 : (rI hp 53 (setB f b s m)).1 53 = z := by rw [rI_eq, hz]
    refine And.intro ⟨show WF ((rI hp 53 (setB f b s m)).1 53) by rw [rI_eq]; exact (hwa m (Nat.le_refl _)).1, hn⟩ ?_
    refine cl_lv hG [(5, vI (nI 0)), (4, vI (bB (sfB ((rI hp 53 (setB f b s m)).1 53) n.toNatClampNeg))), (0, vR 5 52), (1, vI s), (2, vI (nI m)), (3, vI n)] ⟨rfl, rfl, rfl, rfl, rfl, rfl, trivial⟩ ?_
    show G 43 _ [] (rI (rI hp 53 (setB f b s m)) 55 ((rI hp 53 (setB f b s m)).1 53))
    rw [e1, hz, rI_comm hp _ _ (by omega)]
    exact open_) (by
    intro k hk ih
    have ek : (nI k).toNatClampNeg = k := nI_clamp (by omega)
    have e58 : (rI hp 53 (setB f b s k)).1 58 (nI k).toNatClampNeg = b k := by rw [bk58 _ _ (by omega), ek]
    refine run hG [3, 43] 60 ?_
    refine And.intro (fun h1 => absurd h1 (nI_ge hk (by omega))) (fun h1 => ?_)
    have h12 := hbk.1
    refine And.intro (vp_in_nI (by omega) (by omega)) ?_
    refine And.intro (show vp_in ((rI hp 53 (setB f b s k)).1 58 (nI k).toNatClampNeg) 184 by rw [e58]; exact hin k hk) ?_
    refine cl_lv hG [(4, vI (nI k + nI 1)), (0, vR 5 52), (1, vI s), (2, vI (nI m)), (3, vI n)] ⟨rfl, rfl, rfl, rfl, rfl, trivial⟩ ?_
    rw [nI_s]
    show G 3 _ [] (uI (rI hp 53 (setB f b s k)) 53 ((rI hp 53 (setB f b s k)).1 58 (nI k).toNatClampNeg).toNatClampNeg (s >>> (nI k &&& 31) &&& nI 1))
    rw [e58, uI_rI]
    exact ih) 0 (by omega)
  have shut : G 3 [(4, vI (nI 0)), (0, vR 5 52), (1, vI s), (2, vI (nI m)), (3, vI n)] [] (rI hp 53 f) := shut
  rw [← hf, rI_self] at shut
  refine run hG [3] 60 ?_
  exact cl_use hG shut ⟨rfl, rfl, rfl, rfl, rfl, trivial⟩
theorem sc_X5_isSafeBy {own : String} {F L idx : Nat} (h1 : Cond.methodLink own idx yX5_isSafeBy ∈ Gw) (hF : 8 ≤ F) (hL : 187 ≤ L) : SC own F L (idx, false, 4, sp_X5_isSafeBy) := SC_V spH_mono c_X5_isSafeBy okd_5 (fun as hp K h => by obtain ⟨x, hx, -⟩ := spH_e h; exact ⟨_, _, d_M_III_e hx⟩) h1 gw_1118 gw_49 gw_75 gw_1119 (by decide +kernel) hF hL
end
section
theorem bkR_at (f r : Nat → Int32) : ∀ D k, k < bkN f D → ∃ d, d < D ∧ bkB f d = true ∧ bkN f d = k ∧ bkR f r D k = nI (dr (d / 2) (d % 2 + 1))
  | 0, k, h => absurd h (Nat.not_lt_zero _)
  | D + 1, k, h => by
    have hN : bkN f (D + 1) = bkN f D + (if bkB f D = true then 1 else 0) := rfl
    have hR : bkR f r (D + 1) = if bkB f D = true then upd (bkR f r D) (bkN f D) (nI (dr (D / 2) (D % 2 + 1))) else bkR f r D := rfl
    by_cases hb : bkB f D = true
    · rw [if_pos hb] at hN hR
      rw [hR]
      by_cases hk : k = bkN f D
      · exact ⟨D, by omega, hb, hk.symm, by rw [hk, pk_us]⟩
      · obtain ⟨d, h1, h2, h3, h4⟩ := bkR_at f r D k (by omega)
        exact ⟨d, by omega, h2, h3, by rw [pk_un hk]; exact h4⟩
    · rw [if_neg hb] at hN hR
      rw [hR]
      obtain ⟨d, h1, h2, h3, h4⟩ := bkR_at f r D k (by omega)
      exact ⟨d, by omega, h2, h3, h4⟩
theorem dr12 {q y : Nat} (hq : q < 25) (hy : y = 1 ∨ y = 2) : 94 ≤ dr q y ∧ dr q y < 144 := by
  rcases hy with rfl | rfl
  · show 94 ≤ 94 + q ∧ 94 + q < 144
    omega
  · show 94 ≤ 119 + q ∧ 119 + q < 144
    omega
theorem bk_ok {f r : Nat → Int32} (h : bkN f 50 ≤ 12) : bkOK f (bkR f r 50) (bkN f 50) := by
  refine ⟨h, fun k hk => ?_⟩
  obtain ⟨d, h1, h2, h3, h4⟩ := bkR_at f r 50 k hk
  have hd := dr12 (q := d / 2) (y := d % 2 + 1) (by omega) (by omega)
  refine ⟨_, hd.1, hd.2, h4, ?_⟩
  unfold bkB mayB at h2
  rw [Bool.and_eq_true, Bool.and_eq_true, decide_eq_true_iff] at h2
  exact h2.1.2
def brI (f b : Nat → Int32) (m n size : Nat) : Nat → Bool := fun set => decide (onesV (nI set) = nI size) && sfB (setB f b (nI set) m) n
def brS (f b : Nat → Int32) (m n size : Nat) : Nat := fst_ (brI f b m n size) (2 ^ m) 0
def brO (f b : Nat → Int32) (m n : Nat) : Nat → Bool := fun size => decide (brS f b m n size < 2 ^ m)
def brF (f b : Nat → Int32) (m n : Nat) : Nat := fst_ (brO f b m n) (m + 1) 0
def brV (f b : Nat → Int32) (m n : Nat) (k : Int32) : Int32 := if k = 0 then nI (brF f b m n) else nI (brS f b m n (brF f b m n))
def F_barred (n k : Int32) (hp : HP) : Int32 × HP := if (nI 1 ≤ n ∧ n ≤ nI 120) ∧ inB k 2 = true then (if ltB (hp.1 53) n = true then noP hp 4 else
  (if bkN (hp.1 53) 50 ≤ 12 then (if brF (hp.1 53) (bkR (hp.1 53) (hp.1 58) 50) (bkN (hp.1 53) 50) n.toNatClampNeg ≤ bkN (hp.1 53) 50 then (brV (hp.1 53) (bkR (hp.1 53) (hp.1 58) 50) (bkN (hp.1 53) 50) n.toNatClampNeg k, rI hp 58 (bkR (hp.1 53) (hp.1 58) 50)) else noP (rI hp 58 (bkR (hp.1 53) (hp.1 58) 50)) 3)
   else noP (rI hp 58 (bkR (hp.1 53) (hp.1 58) 50)) 6)) else noP hp 0
def sp_X5_barred : SP := spF d_M_II (fun _ hp => WF (hp.1 53)) (fun x hp v hq => v = some (vI (F_barred x.1 x.2 hp).1) ∧ ∃ g, hq = rI (F_barred x.1 x.2 hp).2 55 g)
theorem shl12 : ∀ m, m < 13 → nI 1 <<< (nI m &&& 31) = nI (2 ^ m) := by decide +kernel
theorem pow12 : ∀ m, m < 13 → 2 ^ m < 10000 := by decide +kernel
theorem noP_55 (hp : HP) (k : Nat) (g : Nat → Int32) : noP (rI hp 55 g) k = ((noP hp k).1, rI (noP hp k).2 55 g) := by
  unfold noP
  refine Prod.ext rfl ?_
  show uI (rI hp 55 g) 57 _ ((rI hp 55 g).1 57 _ + nI 1) = rI (uI hp 57 _ _) 55 g
  rw [rI_ne _ _ (by omega), uI_r, uI_r, rI_ne _ _ (by omega), rI_comm hp _ _ (by omega)]
def E_X5_barred : EN := [(55, true, 3, sp_X5_in), (79, false, 2, sp_X5_no), (148, false, 2, sp_X5_isLate), (177, false, 1, sp_X5_banks), (124, true, 1, sp_X5_ones), (180, false, 4, sp_X5_isSafeBy)]
set_option maxRecDepth 100000 in
set_option maxHeartbeats 4000000 in
theorem c_X5_barred : Ctr M_X5_barred sp_X5_barred := by
  refine ctr_of (own := RX5) M_X5_barred sp_X5_barred (P := P_X5_barred) (K := K_X5) (E := E_X5_barred) (by decide) rfl pk_X5_barred K_X5_ok (List.forall_mem_cons.mpr ⟨sc_X5_in gw_883 (by decide) (by decide), List.forall_mem_cons.mpr ⟨sc_X5_no gw_895 (by decide) (by decide), List.forall_mem_cons.mpr ⟨sc_X5_isLate gw_1029 (by decide) (by decide), List.forall_mem_cons.mpr ⟨sc_X5_banks gw_1112 (by decide) (by decide), List.forall_mem_cons.mpr ⟨sc_X5_ones gw_1022 (by decide) (by decide), List.forall_mem_cons.mpr ⟨sc_X5_isSafeBy gw_1116 (by decide) (by decide), fun _ h => absurd h List.not_mem_nil⟩⟩⟩⟩⟩⟩) (fun as hp Q h => by obtain ⟨x, hx, -⟩ := spF_e h; rw [d_M_II_e hx]; exact Nat.le_of_ble_eq_true rfl) ?_
  intro Q G hQi hG as hp h
  obtain ⟨x, hx, hpre, hQ⟩ := spF_e h
  rw [d_M_II_e hx]
  clear h hx
  obtain ⟨n, k⟩ := x
  try dsimp only at hpre hQ ⊢
  have ib : (decide (nI 0 ≤ k) && decide (k ≤ nI 1)) = inB k 2 := in_b (by omega)
  have fin : ∀ p, F_barred n k hp = p → Q (some (vI p.1)) p.2 := fun p e => hQ _ _ ⟨by rw [e], p.2 |>.1 55, by rw [e, rI_self]⟩
  have fin2 : ∀ p g, F_barred n k hp = p → Q (some (vI p.1)) (rI p.2 55 g) := fun p g e => hQ _ _ ⟨by rw [e], g, by rw [e]⟩
  have no : ¬ ((nI 1 ≤ n ∧ n ≤ nI 120) ∧ inB k 2 = true) → Q (some (vI (noP hp 0).1)) (noP hp 0).2 := fun h => fin _ (if_neg h)
  refine run hG [60] 60 ?_
  refine And.intro trivial ?_
  refine And.intro (fun h1 => ?_) (fun h1 => ?_)
  · exact And.intro (vp_in_nI (by omega) (by omega)) (no (fun h => and_f (bB_0.mp h1) h.1))
  have h1 := and_t.mp (bB_1.mp h1)
  refine And.intro trivial ?_
  refine And.intro (fun h2 => ?_) (fun h2 => ?_)
  case refine_2 =>
    refine And.intro (vp_in_nI (by omega) (by omega)) (no (fun h => ?_))
    rw [← ib, show (decide (nI 0 ≤ k) && decide (k ≤ nI 1)) = false from bB_0.mp h2] at h
    exact absurd h.2 (by decide)
  have h2 : inB k 2 = true := ib ▸ bB_1.mp h2
  have hF : F_barred n k hp = _ := if_pos ⟨h1, h2⟩
  refine And.intro trivial ?_
  refine And.intro (fun h3 => ?_) (fun h3 => ?_)
  case refine_2 =>
    have h3 : ltB (hp.1 53) n = true := bB_1.mp h3
    rw [if_pos h3] at hF
    exact And.intro (vp_in_nI (by omega) (by omega)) (fin _ hF)
  have h3 : ltB (hp.1 53) n = false := bB_0.mp h3
  rw [if_neg (by rw [h3]; decide)] at hF
  refine And.intro trivial ?_
  have hle := bkN_le (hp.1 53) 50
  generalize hf : hp.1 53 = f at hpre hF hle
  generalize hb : bkR f (hp.1 58) 50 = b at hF
  have hbe : bkR (hp.1 53) (hp.1 58) 50 = b := by rw [hf]; exact hb
  have eN : bkN (hp.1 53) 50 = bkN f 50 := by rw [hf]
  refine And.intro (fun h4 => ?_) (fun h4 => ?_)
  case refine_2 =>
    have h4 : ¬ nI (bkN (hp.1 53) 50) ≤ nI 12 := h4
    rw [eN, nI_leI (by omega) (by omega)] at h4
    rw [if_neg h4] at hF
    refine And.intro (vp_in_nI (by omega) (by omega)) ?_
    rw [← hbe] at hF
    exact fin _ hF
  have h4 : nI (bkN (hp.1 53) 50) ≤ nI 12 := h4
  rw [eN, nI_leI (by omega) (by omega)] at h4
  rw [if_pos h4] at hF
  have hbk : bkOK f b (bkN f 50) := by rw [← hb]; exact bk_ok h4
  generalize bkN f 50 = m at hF h4 hbk eN
  have hp12 := pow12 m (by omega)
  have hs12 := shl12 m (by omega)
  have hn1 : vp_in n 1000 := in_k h1 (by omega) (by omega) (by omega)
  generalize hh : rI hp 58 b = h58 at hF
  have e53 : ∀ g, (rI h58 55 g).1 53 = f := fun g => by rw [rI_ne _ _ (by omega), ← hh, rI_ne _ _ (by omega)]; exact hf
  have e58 : ∀ g, (rI h58 55 g).1 58 = b := fun g => by rw [rI_ne _ _ (by omega), ← hh, rI_eq]
  have em : (nI m).toNatClampNeg = m := nI_clamp (by omega)
  have outer : ∀ size, size ≤ m + 1 → brF f b m n.toNatClampNeg = fst_ (brO f b m n.toNatClampNeg) (m + 1 - size) size → ∀ g, G 60 [(4, vI (nI size)), (3, vI (nI m)), (0, vR 5 52), (1, vI n), (2, vI k)] [] (rI h58 55 g) := by
    refine for_up (P := fun size => brF f b m n.toNatClampNeg = fst_ (brO f b m n.toNatClampNeg) (m + 1 - size) size → ∀ g, G 60 [(4, vI (nI size)), (3, vI (nI m)), (0, vR 5 52), (1, vI n), (2, vI k)] [] (rI h58 55 g)) (m + 1) ?_ ?_
    · intro ho g
      rw [Nat.sub_self] at ho
      have ho : brF f b m n.toNatClampNeg = m + 1 := ho
      rw [if_neg (by omega)] at hF
      refine run hG [60] 60 ?_
      refine And.intro (fun h5 => ?_) (fun h5 => absurd (nI_lt (by omega) (by omega)) h5)
      refine And.intro (vp_in_nI (by omega) (by omega)) ?_
      have := fin2 _ g hF
      rw [show rI (noP h58 3).2 55 g = (noP (rI h58 55 g) 3).2 by rw [noP_55]] at this
      exact this
    · intro size hs ih ho
      have e9 : m + 1 - size = (m + 1 - (size + 1)) + 1 := by omega
      rw [e9] at ho
      have ho : brF f b m n.toNatClampNeg = if brO f b m n.toNatClampNeg size = true then size else fst_ (brO f b m n.toNatClampNeg) (m + 1 - (size + 1)) (size + 1) := ho
      have inner : ∀ set, set ≤ 2 ^ m → brS f b m n.toNatClampNeg size = fst_ (brI f b m n.toNatClampNeg size) (2 ^ m - set) set → ∀ g, G 69 [(5, vI (nI set)), (4, vI (nI size)), (3, vI (nI m)), (0, vR 5 52), (1, vI n), (2, vI k)] [] (rI h58 55 g) := by
        refine for_up (P := fun set => brS f b m n.toNatClampNeg size = fst_ (brI f b m n.toNatClampNeg size) (2 ^ m - set) set → ∀ g, G 69 [(5, vI (nI set)), (4, vI (nI size)), (3, vI (nI m)), (0, vR 5 52), (1, vI n), (2, vI k)] [] (rI h58 55 g)) (2 ^ m) ?_ ?_
        · intro hS g
          rw [Nat.sub_self] at hS
          have hS : brS f b m n.toNatClampNeg size = 2 ^ m := hS
          have hO : brO f b m n.toNatClampNeg size = false := decide_eq_false (by omega)
          rw [if_neg (by rw [hO]; decide)] at ho
          refine run hG [60, 69] 60 ?_
          refine And.intro (fun h5 => ?_) (fun h5 => absurd ?_ h5)
          · refine cl_lv hG [(4, vI (nI size + nI 1)), (3, vI (nI m)), (0, vR 5 52), (1, vI n), (2, vI k)] ⟨rfl, rfl, rfl, rfl, rfl, trivial⟩ ?_
            rw [nI_s]
            exact ih ho g
          · show nI 1 <<< (nI m &&& 31) ≤ nI (2 ^ m)
            rw [hs12]
            exact nI_le (Nat.le_refl _) (by omega)
        · intro set hset ih2 hS g
          have e8 : 2 ^ m - set = (2 ^ m - (set + 1)) + 1 := by omega
          rw [e8] at hS
          have hS : brS f b m n.toNatClampNeg size = if brI f b m n.toNatClampNeg size set = true then set else fst_ (brI f b m n.toNatClampNeg size) (2 ^ m - (set + 1)) (set + 1) := hS
          have nxt : brI f b m n.toNatClampNeg size set = false → ∀ g, G 69 [(5, vI (nI set + nI 1)), (4, vI (nI size)), (3, vI (nI m)), (0, vR 5 52), (1, vI n), (2, vI k)] [] (rI h58 55 g) := by
            intro hI g
            rw [if_neg (by rw [hI]; decide)] at hS
            rw [nI_s]
            exact ih2 hS g
          refine run hG [60, 69] 60 ?_
          refine And.intro (fun h5 => absurd ?_ (nI_ge hset (by omega))) (fun h5 => ?_)
          · have h5 : nI 1 <<< (nI m &&& 31) ≤ nI set := h5
            rw [hs12] at h5
            exact h5
          refine And.intro trivial ?_
          refine And.intro (fun h6 => ?_) (fun h6 => ?_)
          · have h6 : ¬ onesV (nI set) = nI size := h6
            exact cl_use hG (nxt (by unfold brI; rw [decide_eq_false h6]; rfl) g) ⟨rfl, rfl, rfl, rfl, rfl, rfl, trivial⟩
          · have h6 : onesV (nI set) = nI size := h6
            have esb : setB ((rI h58 55 g).1 53) ((rI h58 55 g).1 58) (nI set) (nI m).toNatClampNeg = setB f b (nI set) m := by rw [e53, e58, em]
            refine And.intro ⟨show WF ((rI h58 55 g).1 53) by rw [e53]; exact hpre, vp_in_nI (by omega) (by omega), show bkOK ((rI h58 55 g).1 53) ((rI h58 55 g).1 58) (nI m).toNatClampNeg by rw [e53, e58, em]; exact hbk, hn1⟩ ?_
            have eh : rI (rI h58 55 g) 55 (setB ((rI h58 55 g).1 53) ((rI h58 55 g).1 58) (nI set) (nI m).toNatClampNeg) = rI h58 55 (setB f b (nI set) m) := by rw [esb, rI_rI]
            refine And.intro (fun h7 => ?_) (fun h7 => ?_)
            · have h7 : sfB (setB ((rI h58 55 g).1 53) ((rI h58 55 g).1 58) (nI set) (nI m).toNatClampNeg) n.toNatClampNeg = false := bB_0.mp h7
              rw [esb] at h7
              have k9 := nxt (by unfold brI; rw [h7, decide_eq_true h6]; rfl) (setB f b (nI set) m)
              rw [← eh] at k9
              exact cl_use hG k9 ⟨rfl, rfl, rfl, rfl, rfl, rfl, trivial⟩
            · have h7 : sfB (setB ((rI h58 55 g).1 53) ((rI h58 55 g).1 58) (nI set) (nI m).toNatClampNeg) n.toNatClampNeg = true := bB_1.mp h7
              rw [esb] at h7
              have hI : brI f b m n.toNatClampNeg size set = true := by unfold brI; rw [h7, decide_eq_true h6]; rfl
              rw [if_pos hI] at hS
              have hO : brO f b m n.toNatClampNeg size = true := decide_eq_true (by omega)
              rw [if_pos hO] at ho
              rw [if_pos (by omega)] at hF
              have f9 := fin2 _ (setB f b (nI set) m) hF
              unfold brV at f9
              rw [ho, hS, ← eh] at f9
              refine And.intro (fun h8 => ?_) (fun h8 => ?_)
              · rw [if_neg h8] at f9
                exact f9
              · rw [if_pos h8] at f9
                exact f9
      intro g
      refine run hG [60, 69] 60 ?_
      refine And.intro (fun h5 => absurd h5 (nI_nlt (by omega) (by omega))) (fun h5 => ?_)
      exact cl_use hG (inner 0 (Nat.zero_le _) rfl g) ⟨rfl, rfl, rfl, rfl, rfl, rfl, trivial⟩
  have k0 := outer 0 (by omega) rfl (h58.1 55)
  rw [rI_self] at k0
  have ebank : rI hp 58 (bkR (hp.1 53) (hp.1 58) 50) = h58 := by rw [hbe]; exact hh
  refine cl_lv hG [(4, vI (nI 0)), (3, vI (nI (bkN (hp.1 53) 50))), (0, vR 5 52), (1, vI n), (2, vI k)] ⟨rfl, rfl, rfl, rfl, rfl, trivial⟩ ?_
  show G 60 _ [] (rI hp 58 (bkR (hp.1 53) (hp.1 58) 50))
  rw [ebank, eN]
  exact k0
theorem sc_X5_barred {own : String} {F L idx : Nat} (h1 : Cond.methodLink own idx yX5_barred ∈ Gw) (hF : 9 ≤ F) (hL : 212 ≤ L) : SC own F L (idx, false, 3, sp_X5_barred) := SC_V spF_mono c_X5_barred okd_5 (fun as hp K h => by obtain ⟨x, hx, -⟩ := spF_e h; exact ⟨_, _, d_M_II_e hx⟩) h1 gw_1109 gw_1110 gw_75 gw_1111 (by decide +kernel) hF hL
end
section
theorem noP_r (hp : HP) (k : Nat) {c : Nat} (g : Nat → Int32) (hc : c ≠ 57) : noP (rI hp c g) k = ((noP hp k).1, rI (noP hp k).2 c g) := by
  unfold noP
  refine Prod.ext rfl ?_
  show uI (rI hp c g) 57 _ ((rI hp c g).1 57 _ + nI 1) = rI (uI hp 57 _ _) c g
  rw [rI_ne _ _ (Ne.symm hc), uI_r, uI_r, rI_ne _ _ (Ne.symm hc), rI_comm hp _ _ hc]
theorem rI_id {hp : HP} {c : Nat} {f : Nat → Int32} (h : hp.1 c = f) : rI hp c f = hp := by rw [← h, rI_self]
/-- a pair of the best and how much, over 25 squares -/
def bst (v : Nat → Option Int32) (b m : Int32) : Nat → Int32 × Int32
  | 0 => (b, m)
  | q + 1 => match v q with
    | some x => if x ≤ (bst v b m q).2 then bst v b m q else (nI q, x)
    | none => bst v b m q
def lmC (f : Nat → Int32) (n q : Nat) : Int32 := fold (fun w s => s + (if goF (upd f (44 + q) (nI 1)) n (144 + 5 * w + 2) = goF f n (144 + 5 * w + 2) then nI 0 else nI 1)) (nI 0) (mN f)
def lmX (f : Nat → Int32) (n q : Nat) : Option Int32 := if f (44 + q) = 0 then some (lmC f n q) else none
def F_lamp (n : Int32) (hp : HP) : Int32 × HP := if nI 1 ≤ n ∧ n ≤ nI 120 then (if ltB (hp.1 53) n = true then noP hp 4 else (if 0 ≤ (bst (lmX (hp.1 53) n.toNatClampNeg) (-1) (nI 0) 25).1 then ((bst (lmX (hp.1 53) n.toNatClampNeg) (-1) (nI 0) 25).1, rI hp 56 (hp.1 53)) else noP (rI hp 56 (hp.1 53)) 3)) else noP hp 0
def sp_X5_lamp : SP := spF d_M_I (fun _ hp => WF (hp.1 53)) (fun x hp v hq => v = some (vI (F_lamp x hp).1) ∧ ∃ g, hq = rI (F_lamp x hp).2 59 g)
def E_X5_lamp : EN := [(55, true, 3, sp_X5_in), (79, false, 2, sp_X5_no), (148, false, 2, sp_X5_isLate), (164, true, 2, sp_X5_lay), (154, false, 2, sp_X5_go), (59, false, 3, sp_X5_has)]
set_option maxRecDepth 100000 in
set_option maxHeartbeats 4000000 in
theorem c_X5_lamp : Ctr M_X5_lamp sp_X5_lamp := by
  refine ctr_of (own := RX5) M_X5_lamp sp_X5_lamp (P := P_X5_lamp) (K := K_X5) (E := E_X5_lamp) (by decide) rfl pk_X5_lamp K_X5_ok (List.forall_mem_cons.mpr ⟨sc_X5_in gw_883 (by decide) (by decide), List.forall_mem_cons.mpr ⟨sc_X5_no gw_895 (by decide) (by decide), List.forall_mem_cons.mpr ⟨sc_X5_isLate gw_1029 (by decide) (by decide), List.forall_mem_cons.mpr ⟨sc_X5_lay gw_1077 (by decide) (by decide), List.forall_mem_cons.mpr ⟨sc_X5_go gw_1041 (by decide) (by decide), List.forall_mem_cons.mpr ⟨sc_X5_has gw_924 (by decide) (by decide), fun _ h => absurd h List.not_mem_nil⟩⟩⟩⟩⟩⟩) (fun as hp Q h => by obtain ⟨x, hx, -⟩ := spF_e h; rw [d_M_I_e hx]; exact Nat.le_of_ble_eq_true rfl) ?_
  intro Q G hQi hG as hp h
  obtain ⟨x, hx, hpre, hQ⟩ := spF_e h
  rw [d_M_I_e hx]
  clear h hx
  have fin : ∀ p, F_lamp x hp = p → Q (some (vI p.1)) p.2 := fun p e => hQ _ _ ⟨by rw [e], p.2 |>.1 59, by rw [e, rI_self]⟩
  have fin2 : ∀ p g, F_lamp x hp = p → Q (some (vI p.1)) (rI p.2 59 g) := fun p g e => hQ _ _ ⟨by rw [e], g, by rw [e]⟩
  refine run hG [48] 60 ?_
  refine And.intro trivial ?_
  refine And.intro (fun h1 => ?_) (fun h1 => ?_)
  case refine_2 => exact And.intro (vp_in_nI (by omega) (by omega)) (fin _ (if_neg (and_f (bB_0.mp h1))))
  have h1 := and_t.mp (bB_1.mp h1)
  have hF : F_lamp x hp = _ := if_pos h1
  refine And.intro trivial ?_
  refine And.intro (fun h3 => ?_) (fun h3 => ?_)
  case refine_2 =>
    have h3 : ltB (hp.1 53) x = true := bB_1.mp h3
    rw [if_pos h3] at hF
    exact And.intro (vp_in_nI (by omega) (by omega)) (fin _ hF)
  have h3 : ltB (hp.1 53) x = false := bB_0.mp h3
  rw [if_neg (by rw [h3]; decide)] at hF
  have hn1 : vp_in x 1000 := in_k h1 (by omega) (by omega) (by omega)
  refine And.intro ⟨rfl, rfl, by decide⟩ ?_
  have e1 : (rI hp 56 (hp.1 53)).1 53 = hp.1 53 := rI_ne _ _ (by omega)
  refine And.intro ⟨show WF ((rI hp 56 (hp.1 53)).1 53) by rw [e1]; exact hpre, hn1⟩ ?_
  generalize hf : hp.1 53 = f at hpre hF e1 h3
  generalize hnn : x.toNatClampNeg = n at hF
  have h8 := mN_lt hpre
  have hgo := hpre.go n
  generalize hH : rI hp 56 f = H at hF
  have eH53 : H.1 53 = f := by rw [← hH, rI_ne _ _ (by omega)]; exact hf
  have eH56 : H.1 56 = f := by rw [← hH, rI_eq]
  -- the last part
  have fin84 : ∀ P y, G 84 [(4, vI (nI 25)), (3, vI (bst (lmX f n) (-1) (nI 0) 25).2), (2, vI (bst (lmX f n) (-1) (nI 0) 25).1), (0, vR 5 52), (1, vI x)] [] (rI (rI H 59 P) 53 y) := by
    intro P y
    have eback : rI (rI (rI H 59 P) 53 y) 53 ((rI (rI H 59 P) 53 y).1 56) = rI H 59 P := by
      rw [rI_rI, rI_ne _ _ (by omega), rI_ne _ _ (by omega), eH56]
      exact rI_id (by rw [rI_ne _ _ (by omega)]; exact eH53)
    refine run hG [84] 60 ?_
    refine And.intro (fun h4 => ?_) (fun h4 => absurd (nI_le (Nat.le_refl _) (by omega)) h4)
    refine And.intro ⟨rfl, rfl, by decide⟩ ?_
    refine And.intro (fun h5 => ?_) (fun h5 => ?_)
    · rw [if_pos h5] at hF
      have f9 := fin2 _ P hF
      rw [← eback] at f9
      exact f9
    · rw [if_neg h5] at hF
      refine And.intro (vp_in_nI (by omega) (by omega)) ?_
      have f9 := fin2 _ P hF
      rw [show rI (noP H 3).2 59 P = (noP (rI H 59 P) 3).2 by rw [noP_r _ _ _ (by omega)], ← eback] at f9
      exact f9
  have main : ∀ P, (∀ w, w < mN f → P w = goF f n (144 + 5 * w + 2)) → ∀ y, G 84 [(4, vI (nI 0)), (3, vI (nI 0)), (2, vI (-1)), (0, vR 5 52), (1, vI x)] [] (rI (rI H 59 P) 53 y) := by
    intro P hPw
    have k9 := for_up (P := fun q => ∀ y, G 84 [(4, vI (nI q)), (3, vI (bst (lmX f n) (-1) (nI 0) q).2), (2, vI (bst (lmX f n) (-1) (nI 0) q).1), (0, vR 5 52), (1, vI x)] [] (rI (rI H 59 P) 53 y)) 25 (fun y => fin84 P y) (by
      intro q hq ih y
      have ebs : bst (lmX f n) (-1) (nI 0) (q + 1) = (match lmX f n q with | some x => if x ≤ (bst (lmX f n) (-1) (nI 0) q).2 then bst (lmX f n) (-1) (nI 0) q else (nI q, x) | none => bst (lmX f n) (-1) (nI 0) q) := rfl
      rw [ebs] at ih
      generalize bst (lmX f n) (-1) (nI 0) q = p at ih
      have eq : (nI q).toNatClampNeg = q := nI_clamp (by omega)
      have eback : rI (rI (rI H 59 P) 53 y) 53 ((rI (rI H 59 P) 53 y).1 56) = rI (rI H 59 P) 53 f := by
        rw [rI_rI, rI_ne _ _ (by omega), rI_ne _ _ (by omega), eH56]
      generalize hB : rI (rI (rI H 59 P) 53 y) 53 ((rI (rI H 59 P) 53 y).1 56) = B at eback
      have eB53 : B.1 53 = f := by rw [eback, rI_eq]
      have e44 : (nI 44 + nI q) = nI (44 + q) := nI_add _ _
      have i44 : vp_in (nI 44 + nI q) 184 := by rw [e44]; exact vp_in_nI (by omega) (by omega)
      refine run hG [84, 137] 60 ?_
      refine And.intro (fun h4 => absurd h4 (nI_ge hq (by omega))) (fun h4 => ?_)
      refine And.intro ⟨rfl, rfl, by decide⟩ ?_
      refine And.intro i44 ?_
      refine And.intro (fun h5 => ?_) (fun h5 => ?_)
      · have h5 : ¬ (rI (rI (rI H 59 P) 53 y) 53 ((rI (rI H 59 P) 53 y).1 56)).1 53 (nI 44 + nI q).toNatClampNeg = 0 := h5
        rw [hB, eB53, e44, nI_clamp (by omega)] at h5
        have ex : lmX f n q = none := by unfold lmX; rw [if_neg h5]
        rw [ex] at ih
        have k8 := ih f
        refine cl_lv hG [(4, vI (nI q + nI 1)), (3, vI p.2), (2, vI p.1), (0, vR 5 52), (1, vI x)] ⟨rfl, rfl, rfl, rfl, rfl, trivial⟩ ?_
        rw [nI_s]
        show G 84 _ [] (rI (rI (rI H 59 P) 53 y) 53 ((rI (rI H 59 P) 53 y).1 56))
        rw [hB, eback]
        exact k8
      · have h5 : (rI (rI (rI H 59 P) 53 y) 53 ((rI (rI H 59 P) 53 y).1 56)).1 53 (nI 44 + nI q).toNatClampNeg = 0 := h5
        rw [hB, eB53, e44, nI_clamp (by omega)] at h5
        have ex : lmX f n q = some (lmC f n q) := by unfold lmX; rw [if_pos h5]
        rw [ex] at ih
        have ih : ∀ y, G 84 [(4, vI (nI (q + 1))), (3, vI (if lmC f n q ≤ p.2 then p else (nI q, lmC f n q)).2), (2, vI (if lmC f n q ≤ p.2 then p else (nI q, lmC f n q)).1), (0, vR 5 52), (1, vI x)] [] (rI (rI H 59 P) 53 y) := ih
        refine And.intro i44 ?_
        have hWl := hpre.flag (d := 44 + q) (v := nI 1) (by omega) (by omega) (vp_in_nI (by omega) (by omega))
        have eU : uI (rI (rI (rI H 59 P) 53 y) 53 ((rI (rI H 59 P) 53 y).1 56)) 53 (nI 44 + nI q).toNatClampNeg (nI 1) = rI (rI H 59 P) 53 (upd f (44 + q) (nI 1)) := by
          rw [hB, eback, e44, nI_clamp (by omega), uI_rI]
        generalize hU : uI (rI (rI (rI H 59 P) 53 y) 53 ((rI (rI H 59 P) 53 y).1 56)) 53 (nI 44 + nI q).toNatClampNeg (nI 1) = U at eU
        have eU53 : U.1 53 = upd f (44 + q) (nI 1) := by rw [eU, rI_eq]
        refine And.intro ⟨show WF (U.1 53) by rw [eU53]; exact hWl.1, hn1⟩ ?_
        have hgl := hWl.1.go n
        have eV : rI U 53 (goF (U.1 53) x.toNatClampNeg) = rI (rI H 59 P) 53 (goF (upd f (44 + q) (nI 1)) n) := by rw [eU53, eU, rI_rI, hnn]
        have cnt := for_up (P := fun w => G 137 [(6, vI (nI w)), (5, vI (fold (fun w s => s + (if goF (upd f (44 + q) (nI 1)) n (144 + 5 * w + 2) = goF f n (144 + 5 * w + 2) then nI 0 else nI 1)) (nI 0) w)), (4, vI (nI q)), (3, vI p.2), (2, vI p.1), (0, vR 5 52), (1, vI x)] [] (rI (rI H 59 P) 53 (goF (upd f (44 + q) (nI 1)) n))) (mN f) (by
          have e6 : (rI (rI H 59 P) 53 (goF (upd f (44 + q) (nI 1)) n)).1 53 (nI 6).toNatClampNeg = nI (mN f) := by
            rw [rI_eq]
            have := mN_eq hgl.1
            rw [hgl.2, hWl.2] at this
            exact this
          have ih9 := ih (goF (upd f (44 + q) (nI 1)) n)
          refine run hG [84, 137] 60 ?_
          refine And.intro (vp_in_nI (by omega) (by omega)) ?_
          refine And.intro (fun h6 => ?_) (fun h6 => absurd (show (rI (rI H 59 P) 53 (goF (upd f (44 + q) (nI 1)) n)).1 53 (nI 6).toNatClampNeg ≤ nI (mN f) by rw [e6]; exact nI_le (Nat.le_refl _) (by omega)) h6)
          refine And.intro (fun h7 => ?_) (fun h7 => ?_)
          · have h7 : lmC f n q ≤ p.2 := h7
            rw [if_pos h7] at ih9
            refine And.intro (fun h8 => ?_) (fun h8 => absurd h7 h8)
            refine cl_lv hG [(4, vI (nI q + nI 1)), (3, vI p.2), (2, vI p.1), (0, vR 5 52), (1, vI x)] ⟨rfl, rfl, rfl, rfl, rfl, trivial⟩ ?_
            rw [nI_s]
            exact ih9
          · have h7 : ¬ lmC f n q ≤ p.2 := h7
            rw [if_neg h7] at ih9
            refine And.intro (fun h8 => absurd h8 h7) (fun h8 => ?_)
            refine cl_lv hG [(4, vI (nI q + nI 1)), (3, vI (lmC f n q)), (2, vI (nI q)), (0, vR 5 52), (1, vI x)] ⟨rfl, rfl, rfl, rfl, rfl, trivial⟩ ?_
            rw [nI_s]
            exact ih9) (by
          intro w hw ih2
          have ew : (nI w).toNatClampNeg = w := nI_clamp (by omega)
          have e6 : (rI (rI H 59 P) 53 (goF (upd f (44 + q) (nI 1)) n)).1 53 (nI 6).toNatClampNeg = nI (mN f) := by
            rw [rI_eq]
            have := mN_eq hgl.1
            rw [hgl.2, hWl.2] at this
            exact this
          have ea : (rI (rI H 59 P) 53 (goF (upd f (44 + q) (nI 1)) n)).1 53 (144 + 5 * (nI w).toNatClampNeg + (nI 2).toNatClampNeg) = goF (upd f (44 + q) (nI 1)) n (144 + 5 * w + 2) := by rw [rI_eq, ew]; rfl
          have eb : (rI (rI H 59 P) 53 (goF (upd f (44 + q) (nI 1)) n)).1 59 (nI w).toNatClampNeg = goF f n (144 + 5 * w + 2) := by rw [rI_ne _ _ (by omega), rI_eq, ew]; exact hPw w hw
          refine run hG [84, 137] 60 ?_
          refine And.intro (vp_in_nI (by omega) (by omega)) ?_
          refine And.intro (fun h6 => absurd (show nI (mN f) ≤ nI w by have h6 : (rI (rI H 59 P) 53 (goF (upd f (44 + q) (nI 1)) n)).1 53 (nI 6).toNatClampNeg ≤ nI w := h6; rw [e6] at h6; exact h6) (nI_ge hw (by omega))) (fun h6 => ?_)
          refine And.intro ⟨vp_in_nI (by omega) (by omega), vp_in_nI (by omega) (by omega)⟩ ?_
          refine And.intro (vp_in_nI (by omega) (by omega)) ?_
          have ih2 : G 137 [(6, vI (nI (w + 1))), (5, vI (fold (fun w s => s + (if goF (upd f (44 + q) (nI 1)) n (144 + 5 * w + 2) = goF f n (144 + 5 * w + 2) then nI 0 else nI 1)) (nI 0) w + (if goF (upd f (44 + q) (nI 1)) n (144 + 5 * w + 2) = goF f n (144 + 5 * w + 2) then nI 0 else nI 1))), (4, vI (nI q)), (3, vI p.2), (2, vI p.1), (0, vR 5 52), (1, vI x)] [] (rI (rI H 59 P) 53 (goF (upd f (44 + q) (nI 1)) n)) := ih2
          generalize fold (fun w s => s + (if goF (upd f (44 + q) (nI 1)) n (144 + 5 * w + 2) = goF f n (144 + 5 * w + 2) then nI 0 else nI 1)) (nI 0) w = c at ih2
          refine And.intro (fun h7 => ?_) (fun h7 => ?_)
          · have h7 : (rI (rI H 59 P) 53 (goF (upd f (44 + q) (nI 1)) n)).1 53 (144 + 5 * (nI w).toNatClampNeg + (nI 2).toNatClampNeg) = (rI (rI H 59 P) 53 (goF (upd f (44 + q) (nI 1)) n)).1 59 (nI w).toNatClampNeg := h7
            rw [ea, eb] at h7
            rw [if_pos h7] at ih2
            refine cl_lv hG [(6, vI (nI w + nI 1)), (5, vI (c + nI 0)), (4, vI (nI q)), (3, vI p.2), (2, vI p.1), (0, vR 5 52), (1, vI x)] ⟨rfl, rfl, rfl, rfl, rfl, rfl, rfl, trivial⟩ ?_
            rw [nI_s]
            exact ih2
          · have h7 : ¬ (rI (rI H 59 P) 53 (goF (upd f (44 + q) (nI 1)) n)).1 53 (144 + 5 * (nI w).toNatClampNeg + (nI 2).toNatClampNeg) = (rI (rI H 59 P) 53 (goF (upd f (44 + q) (nI 1)) n)).1 59 (nI w).toNatClampNeg := h7
            rw [ea, eb] at h7
            rw [if_neg h7] at ih2
            refine cl_lv hG [(6, vI (nI w + nI 1)), (5, vI (c + nI 1)), (4, vI (nI q)), (3, vI p.2), (2, vI p.1), (0, vR 5 52), (1, vI x)] ⟨rfl, rfl, rfl, rfl, rfl, rfl, rfl, trivial⟩ ?_
            rw [nI_s]
            exact ih2) 0 (by omega)
        rw [← eV] at cnt
        exact cl_use hG cnt ⟨rfl, rfl, rfl, rfl, rfl, rfl, rfl, trivial⟩) 0 (by omega)
    exact k9
  -- the places
  have pls := for_up (P := fun k => G 48 [(2, vI (nI k)), (0, vR 5 52), (1, vI x)] [] (rI (rI H 59 (fun j => if j < k then goF f n (144 + 5 * j + 2) else H.1 59 j)) 53 (goF f n))) (mN f) (by
    have e6 : (rI (rI H 59 (fun j => if j < mN f then goF f n (144 + 5 * j + 2) else H.1 59 j)) 53 (goF f n)).1 53 (nI 6).toNatClampNeg = nI (mN f) := by
      rw [rI_eq]
      have := mN_eq hgo.1
      rw [hgo.2] at this
      exact this
    have k7 := main (fun j => if j < mN f then goF f n (144 + 5 * j + 2) else H.1 59 j) (fun w hw => if_pos hw) (goF f n)
    refine run hG [48, 84] 60 ?_
    refine And.intro (vp_in_nI (by omega) (by omega)) ?_
    refine And.intro (fun h6 => ?_) (fun h6 => absurd (show (rI (rI H 59 (fun j => if j < mN f then goF f n (144 + 5 * j + 2) else H.1 59 j)) 53 (goF f n)).1 53 (nI 6).toNatClampNeg ≤ nI (mN f) by rw [e6]; exact nI_le (Nat.le_refl _) (by omega)) h6)
    exact cl_use hG k7 ⟨rfl, rfl, rfl, rfl, rfl, trivial⟩) (by
    intro k hk ih
    have ek : (nI k).toNatClampNeg = k := nI_clamp (by omega)
    have e6 : (rI (rI H 59 (fun j => if j < k then goF f n (144 + 5 * j + 2) else H.1 59 j)) 53 (goF f n)).1 53 (nI 6).toNatClampNeg = nI (mN f) := by
      rw [rI_eq]
      have := mN_eq hgo.1
      rw [hgo.2] at this
      exact this
    refine run hG [48, 84] 60 ?_
    refine And.intro (vp_in_nI (by omega) (by omega)) ?_
    refine And.intro (fun h6 => absurd (show nI (mN f) ≤ nI k by have h6 : (rI (rI H 59 (fun j => if j < k then goF f n (144 + 5 * j + 2) else H.1 59 j)) 53 (goF f n)).1 53 (nI 6).toNatClampNeg ≤ nI k := h6; rw [e6] at h6; exact h6) (nI_ge hk (by omega))) (fun h6 => ?_)
    refine And.intro ⟨vp_in_nI (by omega) (by omega), vp_in_nI (by omega) (by omega)⟩ ?_
    refine And.intro (vp_in_nI (by omega) (by omega)) ?_
    refine cl_lv hG [(2, vI (nI k + nI 1)), (0, vR 5 52), (1, vI x)] ⟨rfl, rfl, rfl, trivial⟩ ?_
    rw [nI_s]
    show G 48 _ [] (uI (rI (rI H 59 (fun j => if j < k then goF f n (144 + 5 * j + 2) else H.1 59 j)) 53 (goF f n)) 59 (nI k).toNatClampNeg ((rI (rI H 59 (fun j => if j < k then goF f n (144 + 5 * j + 2) else H.1 59 j)) 53 (goF f n)).1 53 (144 + 5 * (nI k).toNatClampNeg + 2)))
    rw [rI_eq, ek, uI_r, rI_ne _ _ (by omega), rI_eq, rI_comm _ _ _ (by omega), rI_rI]
    have e : upd (fun j => if j < k then goF f n (144 + 5 * j + 2) else H.1 59 j) k (goF f n (144 + 5 * k + 2)) = (fun j => if j < k + 1 then goF f n (144 + 5 * j + 2) else H.1 59 j) := by
      funext j
      rw [upd_at]
      by_cases h2 : j = k
      · subst h2
        rw [if_pos rfl, if_pos (by omega)]
      · rw [if_neg h2]
        by_cases h3 : j < k
        · rw [if_pos h3, if_pos (by omega)]
        · rw [if_neg h3, if_neg (by omega)]
    rw [e]
    exact ih) 0 (by omega)
  have e0 : rI H 59 (fun j => if j < 0 then goF f n (144 + 5 * j + 2) else H.1 59 j) = H := rI_id (by funext j; rw [if_neg (by omega)])
  rw [e0] at pls
  refine cl_lv hG [(2, vI (nI 0)), (0, vR 5 52), (1, vI x)] ⟨rfl, rfl, rfl, trivial⟩ ?_
  show G 48 _ [] (rI (rI hp 56 (hp.1 53)) 53 (goF ((rI hp 56 (hp.1 53)).1 53) x.toNatClampNeg))
  rw [hf, e1, hH, hnn]
  exact pls
theorem sc_X5_lamp {own : String} {F L idx : Nat} (h1 : Cond.methodLink own idx yX5_lamp ∈ Gw) (hF : 8 ≤ F) (hL : 186 ≤ L) : SC own F L (idx, false, 2, sp_X5_lamp) := SC_V spF_mono c_X5_lamp okd_5 (fun as hp K h => by obtain ⟨x, hx, -⟩ := spF_e h; exact ⟨_, _, d_M_I_e hx⟩) h1 gw_1121 gw_1122 gw_75 gw_1123 (by decide +kernel) hF hL
end
section
/-! watch and loop -/
def wtF (f : Nat → Int32) (n q : Nat) : Nat → Int32 := goF (upd (upd f 3 (nI q)) 5 (nI 0)) n
def wtX (f : Nat → Int32) (n : Nat) : Nat → Option Int32 := fun q => some (awV (wtF f n q))
def F_watch (n : Int32) (hp : HP) : Int32 × HP := if nI 1 ≤ n ∧ n ≤ nI 120 then (if ltB (hp.1 53) n = true then noP hp 4 else ((bst (wtX (hp.1 53) n.toNatClampNeg) (nI 0) (-1) 25).1, rI hp 56 (hp.1 53))) else noP hp 0
theorem WF.wt {f : Nat → Int32} (h : WF f) (v : Int32) : WF (upd (upd f 3 v) 5 (nI 0)) ∧ mN (upd (upd f 3 v) 5 (nI 0)) = mN f := by
  obtain ⟨⟨n, hn, e6, hws⟩, hfl, r, hr, e5, hrs, h4⟩ := h
  have ne : ∀ k, k ≠ 3 → k ≠ 5 → upd (upd f 3 v) 5 (nI 0) k = f k := fun k a b => by rw [pk_un b, pk_un a]
  refine ⟨⟨⟨n, hn, by rw [ne _ (by omega) (by omega)]; exact e6, fun w hw => ?_⟩, fun k a b => by rw [ne _ (by omega) (by omega)]; exact hfl k a b, 0, by omega, by rw [upd_at, if_pos rfl], fun k hk => absurd hk (by omega), Or.inl rfl⟩, ?_⟩
  · have := hws w hw
    unfold wkOK at this ⊢
    rw [ne _ (by omega) (by omega), ne _ (by omega) (by omega), ne _ (by omega) (by omega), ne _ (by omega) (by omega), ne _ (by omega) (by omega)]
    exact this
  · unfold mN
    rw [ne _ (by omega) (by omega)]
def sp_X5_watch : SP := spH d_M_I (fun _ hp => WF (hp.1 53)) (fun x hp => some (vI (F_watch x hp).1)) (fun x hp => (F_watch x hp).2)
def E_X5_watch : EN := [(55, true, 3, sp_X5_in), (79, false, 2, sp_X5_no), (148, false, 2, sp_X5_isLate), (164, true, 2, sp_X5_lay), (154, false, 2, sp_X5_go), (161, false, 1, sp_X5_awake)]
set_option maxRecDepth 100000 in
set_option maxHeartbeats 4000000 in
theorem c_X5_watch : Ctr M_X5_watch sp_X5_watch := by
  refine ctr_of (own := RX5) M_X5_watch sp_X5_watch (P := P_X5_watch) (K := K_X5) (E := E_X5_watch) (by decide) rfl pk_X5_watch K_X5_ok (List.forall_mem_cons.mpr ⟨sc_X5_in gw_883 (by decide) (by decide), List.forall_mem_cons.mpr ⟨sc_X5_no gw_895 (by decide) (by decide), List.forall_mem_cons.mpr ⟨sc_X5_isLate gw_1029 (by decide) (by decide), List.forall_mem_cons.mpr ⟨sc_X5_lay gw_1077 (by decide) (by decide), List.forall_mem_cons.mpr ⟨sc_X5_go gw_1041 (by decide) (by decide), List.forall_mem_cons.mpr ⟨sc_X5_awake gw_1069 (by decide) (by decide), fun _ h => absurd h List.not_mem_nil⟩⟩⟩⟩⟩⟩) (fun as hp Q h => by obtain ⟨x, hx, -⟩ := spH_e h; rw [d_M_I_e hx]; exact Nat.le_of_ble_eq_true rfl) ?_
  intro Q G hQi hG as hp h
  obtain ⟨x, hx, hpre, hQ⟩ := spH_e h
  rw [d_M_I_e hx]
  clear h hx
  refine run hG [48] 60 ?_
  refine And.intro trivial ?_
  refine And.intro (fun h1 => ?_) (fun h1 => ?_)
  case refine_2 => exact And.intro (vp_in_nI (by omega) (by omega)) (q_F hQ (if_neg (and_f (bB_0.mp h1))))
  have h1 := and_t.mp (bB_1.mp h1)
  have hF : F_watch x hp = _ := if_pos h1
  refine And.intro trivial ?_
  refine And.intro (fun h3 => ?_) (fun h3 => ?_)
  case refine_2 =>
    have h3 : ltB (hp.1 53) x = true := bB_1.mp h3
    rw [if_pos h3] at hF
    exact And.intro (vp_in_nI (by omega) (by omega)) (q_F hQ hF)
  have h3 : ltB (hp.1 53) x = false := bB_0.mp h3
  rw [if_neg (by rw [h3]; decide)] at hF
  have hn1 : vp_in x 1000 := in_k h1 (by omega) (by omega) (by omega)
  refine And.intro ⟨rfl, rfl, by decide⟩ ?_
  generalize hf : hp.1 53 = f at hpre hF h3
  generalize hnn : x.toNatClampNeg = n at hF
  generalize hH : rI hp 56 f = H at hF
  have eH53 : H.1 53 = f := by rw [← hH, rI_ne _ _ (by omega)]; exact hf
  have eH56 : H.1 56 = f := by rw [← hH, rI_eq]
  have eback : ∀ y, rI (rI H 53 y) 53 ((rI H 53 y).1 56) = H := fun y => by
    rw [rI_rI, rI_ne _ _ (by omega), eH56]
    exact rI_id eH53
  have key := for_up (P := fun q => ∀ y, G 48 [(4, vI (nI q)), (3, vI (bst (wtX f n) (nI 0) (-1) q).2), (2, vI (bst (wtX f n) (nI 0) (-1) q).1), (0, vR 5 52), (1, vI x)] [] (rI H 53 y)) 25 (by
    intro y
    refine run hG [48] 60 ?_
    refine And.intro (fun h4 => ?_) (fun h4 => absurd (nI_le (Nat.le_refl _) (by omega)) h4)
    refine And.intro ⟨rfl, rfl, by decide⟩ ?_
    show Q (some (vI (bst (wtX f n) (nI 0) (-1) 25).1)) (rI (rI H 53 y) 53 ((rI H 53 y).1 56))
    rw [eback]
    exact q_F hQ hF) (by
    intro q hq ih y
    have ebs : bst (wtX f n) (nI 0) (-1) (q + 1) = if awV (wtF f n q) ≤ (bst (wtX f n) (nI 0) (-1) q).2 then bst (wtX f n) (nI 0) (-1) q else (nI q, awV (wtF f n q)) := rfl
    rw [ebs] at ih
    generalize bst (wtX f n) (nI 0) (-1) q = p at ih
    have hw := hpre.wt (nI q)
    have hgo := hw.1.go n
    have eh : rI (uI (uI (rI (rI H 53 y) 53 ((rI H 53 y).1 56)) 53 (nI 3).toNatClampNeg (nI q)) 53 (nI 5).toNatClampNeg (nI 0)) 53 (goF ((uI (uI (rI (rI H 53 y) 53 ((rI H 53 y).1 56)) 53 (nI 3).toNatClampNeg (nI q)) 53 (nI 5).toNatClampNeg (nI 0)).1 53) x.toNatClampNeg) = rI H 53 (wtF f n q) := by
      rw [eback, uI_r H, uI_rI, rI_eq, eH53, rI_rI, hnn]
      rfl
    have eU : (uI (uI (rI (rI H 53 y) 53 ((rI H 53 y).1 56)) 53 (nI 3).toNatClampNeg (nI q)) 53 (nI 5).toNatClampNeg (nI 0)).1 53 = upd (upd f 3 (nI q)) 5 (nI 0) := by
      rw [eback, uI_r H, uI_rI, rI_eq, eH53]
      rfl
    generalize hU : uI (uI (rI (rI H 53 y) 53 ((rI H 53 y).1 56)) 53 (nI 3).toNatClampNeg (nI q)) 53 (nI 5).toNatClampNeg (nI 0) = U at eh eU
    refine run hG [48] 60 ?_
    refine And.intro (fun h4 => absurd h4 (nI_ge hq (by omega))) (fun h4 => ?_)
    refine And.intro ⟨rfl, rfl, by decide⟩ ?_
    refine And.intro (vp_in_nI (by omega) (by omega)) ?_
    refine And.intro (vp_in_nI (by omega) (by omega)) ?_
    refine And.intro ⟨show WF ((uI (uI (rI (rI H 53 y) 53 ((rI H 53 y).1 56)) 53 (nI 3).toNatClampNeg (nI q)) 53 (nI 5).toNatClampNeg (nI 0)).1 53) by rw [hU, eU]; exact hw.1, hn1⟩ ?_
    have mny : many ((rI U 53 (goF (U.1 53) x.toNatClampNeg)).1 53) := by rw [eh, rI_eq]; exact hgo.1.many
    have eaw : awV ((rI U 53 (goF (U.1 53) x.toNatClampNeg)).1 53) = awV (wtF f n q) := by rw [eh, rI_eq]
    rw [← hU] at mny eaw eh
    refine And.intro mny ?_
    refine And.intro (fun h5 => ?_) (fun h5 => ?_)
    · have h5 : awV _ ≤ p.2 := h5
      rw [eaw] at h5
      rw [if_pos h5] at ih
      refine And.intro mny ?_
      refine And.intro (fun h6 => ?_) (fun h6 => absurd h5 (by have h6 : ¬ awV _ ≤ p.2 := h6; rw [eaw] at h6; exact h6))
      refine cl_lv hG [(4, vI (nI q + nI 1)), (3, vI p.2), (2, vI p.1), (0, vR 5 52), (1, vI x)] ⟨rfl, rfl, rfl, rfl, rfl, trivial⟩ ?_
      rw [nI_s]
      have i9 := ih (wtF f n q)
      rw [← eh] at i9
      exact i9
    · have h5 : ¬ awV _ ≤ p.2 := h5
      rw [eaw] at h5
      rw [if_neg h5] at ih
      refine And.intro mny ?_
      refine And.intro (fun h6 => absurd (by have h6 : awV _ ≤ p.2 := h6; rw [eaw] at h6; exact h6) h5) (fun h6 => ?_)
      refine And.intro mny ?_
      have i9 := ih (wtF f n q)
      rw [← eaw, ← eh] at i9
      refine cl_lv hG [(4, vI (nI q + nI 1)), (3, _), (2, vI (nI q)), (0, vR 5 52), (1, vI x)] ⟨rfl, rfl, rfl, rfl, rfl, trivial⟩ ?_
      rw [nI_s]
      exact i9) 0 (by omega)
  have k9 := key f
  rw [rI_id eH53, ← hH, ← hf] at k9
  exact cl_use hG k9 ⟨rfl, rfl, rfl, rfl, rfl, trivial⟩
theorem sc_X5_watch {own : String} {F L idx : Nat} (h1 : Cond.methodLink own idx yX5_watch ∈ Gw) (hF : 8 ≤ F) (hL : 184 ≤ L) : SC own F L (idx, false, 2, sp_X5_watch) := SC_V spH_mono c_X5_watch okd_5 (fun as hp K h => by obtain ⟨x, hx, -⟩ := spH_e h; exact ⟨_, _, d_M_I_e hx⟩) h1 gw_1125 gw_1126 gw_75 gw_1127 (by decide +kernel) hF hL
def lpW (f : Nat → Int32) (p : Nat × Nat) : Int32 := if f (69 + p.1) = nI 1 then -1 else trnV (turB f p.1 false) p.2
def lpT (f : Nat → Int32) (p : Nat × Nat) : Nat × Nat := if 0 ≤ lpW f p then (bsd p.1 (lpW f p).toNatClampNeg, (lpW f p).toNatClampNeg) else p
def lpI (f : Nat → Int32) (p : Nat × Nat) : Nat → Nat × Nat
  | 0 => p
  | n + 1 => lpT f (lpI f p n)
theorem lpW_ok (f : Nat → Int32) (p : Nat × Nat) : wayOK (mayB f p.1) (lpW f p) := by
  unfold lpW
  split
  · exact Or.inl rfl
  · exact (trn_ok _ _).mono (fun j h => tur_may h)
theorem nI_nn {j : Nat} (h : j < 2 ^ 31) : (0 : Int32) ≤ nI j := by
  rw [Int32.le_iff_toInt_le, nI_toInt h]
  have : (0 : Int32).toInt = 0 := rfl
  omega
theorem not_nn : ¬ (0 : Int32) ≤ -1 := by decide
theorem lpT_ok {f : Nat → Int32} {p : Nat × Nat} (h : p.1 < 25 ∧ p.2 < 4) : (lpT f p).1 < 25 ∧ (lpT f p).2 < 4 := by
  unfold lpT
  rcases lpW_ok f p with e | ⟨j, hj, e, hm⟩
  · rw [e, if_neg not_nn]
    exact h
  · rw [e, if_pos (nI_nn (by omega)), nI_clamp (by omega)]
    have hb := may_bsd hm
    refine ⟨?_, hj⟩
    rcases bsd_lt p.1 h.1 j hj with h2 | h2
    · exact absurd h2 hb
    · exact h2
theorem lpI_ok {f : Nat → Int32} {p : Nat × Nat} (h : p.1 < 25 ∧ p.2 < 4) : ∀ n, (lpI f p n).1 < 25 ∧ (lpI f p n).2 < 4
  | 0 => h
  | n + 1 => lpT_ok (lpI_ok h n)
def lpP (f : Nat → Int32) (w : Nat) : Nat → Bool := fun n => decide (lpI f (plc f w, wyO f w) n = (plc f w, wyO f w))
def lpN (f : Nat → Int32) (w : Nat) : Nat := fst_ (lpP f w) 500 1
def lpR (hp : HP) (n : Nat) : Int32 × HP := if n ≤ 500 then (nI n, hp) else noP hp 3
def F_loop (w : Int32) (hp : HP) : Int32 × HP := if inB w (mN (hp.1 53)) = true then (if hp.1 53 (144 + 5 * w.toNatClampNeg) = 0 ∧ goB (hp.1 53) w.toNatClampNeg = true then lpR hp (lpN (hp.1 53) w.toNatClampNeg) else noP hp 4) else noP hp 0
def sp_X5_loop : SP := spH d_M_I (fun _ hp => WF (hp.1 53)) (fun x hp => some (vI (F_loop x hp).1)) (fun x hp => (F_loop x hp).2)
def E_X5_loop : EN := [(107, false, 2, sp_X5_isWalker), (79, false, 2, sp_X5_no), (59, false, 3, sp_X5_has), (142, false, 2, sp_X5_goes), (116, false, 4, sp_X5_turned), (63, true, 2, sp_X5_beside)]
set_option maxRecDepth 100000 in
set_option maxHeartbeats 4000000 in
theorem c_X5_loop : Ctr M_X5_loop sp_X5_loop := by
  refine ctr_of (own := RX5) M_X5_loop sp_X5_loop (P := P_X5_loop) (K := K_X5) (E := E_X5_loop) (by decide) rfl pk_X5_loop K_X5_ok (List.forall_mem_cons.mpr ⟨sc_X5_isWalker gw_962 (by decide) (by decide), List.forall_mem_cons.mpr ⟨sc_X5_no gw_895 (by decide) (by decide), List.forall_mem_cons.mpr ⟨sc_X5_has gw_924 (by decide) (by decide), List.forall_mem_cons.mpr ⟨sc_X5_goes gw_1049 (by decide) (by decide), List.forall_mem_cons.mpr ⟨sc_X5_turned gw_1001 (by decide) (by decide), List.forall_mem_cons.mpr ⟨sc_X5_beside gw_889 (by decide) (by decide), fun _ h => absurd h List.not_mem_nil⟩⟩⟩⟩⟩⟩) (fun as hp Q h => by obtain ⟨x, hx, -⟩ := spH_e h; rw [d_M_I_e hx]; exact Nat.le_of_ble_eq_true rfl) ?_
  intro Q G hQi hG as hp h
  obtain ⟨x, hx, hpre, hQ⟩ := spH_e h
  rw [d_M_I_e hx]
  clear h hx
  refine run hG [54] 60 ?_
  refine And.intro hpre.many ?_
  refine And.intro (fun h1 => ?_) (fun h1 => ?_)
  case refine_2 =>
    have h1 : inB x (mN (hp.1 53)) = false := bB_0.mp h1
    exact And.intro (vp_in_nI (by omega) (by omega)) (q_F hQ (if_neg (by rw [h1]; decide)))
  have h1 : inB x (mN (hp.1 53)) = true := bB_1.mp h1
  have hF : F_loop x hp = _ := if_pos h1
  have hx8 := in8 hpre.many h1
  have hw := hpre.wk (ix_lt (inB_t.mp h1))
  have c1 : ∀ j, j < 5 → vp_in (nI j) 5 := fun j hj => vp_in_nI hj (by omega)
  refine And.intro ⟨hx8, c1 0 (by omega)⟩ ?_
  refine And.intro (fun h2 => ?_) (fun h2 => ?_)
  case refine_1 =>
    have h2 : ¬ hp.1 53 (144 + 5 * x.toNatClampNeg) = 0 := h2
    rw [if_neg (fun h => h2 h.1)] at hF
    exact And.intro (vp_in_nI (by omega) (by omega)) (q_F hQ hF)
  have h2 : hp.1 53 (144 + 5 * x.toNatClampNeg) = 0 := h2
  refine And.intro ⟨hx8, hw.2.2.1⟩ ?_
  refine And.intro (fun h3 => ?_) (fun h3 => ?_)
  case refine_2 =>
    have h3 : goB (hp.1 53) x.toNatClampNeg = false := bB_0.mp h3
    rw [if_neg (fun h => by rw [h3] at h; exact absurd h.2 (by decide))] at hF
    exact And.intro (vp_in_nI (by omega) (by omega)) (q_F hQ hF)
  have h3 : goB (hp.1 53) x.toNatClampNeg = true := bB_1.mp h3
  rw [if_pos ⟨h2, h3⟩] at hF
  rw [hF] at hQ
  refine And.intro ⟨hx8, c1 2 (by omega)⟩ ?_
  refine And.intro ⟨hx8, c1 3 (by omega)⟩ ?_
  generalize hf : hp.1 53 = f at hQ hw
  generalize hwn : x.toNatClampNeg = w at hQ hw
  have e2 : hp.1 53 (144 + 5 * x.toNatClampNeg + (nI 2).toNatClampNeg) = nI (plc f w) := by
    rw [hf, hwn]
    exact ix_nI hw.2.2.1 (by omega)
  have e3 : hp.1 53 (144 + 5 * x.toNatClampNeg + (nI 3).toNatClampNeg) = nI (wyO f w) := by
    rw [hf, hwn]
    exact ix_nI hw.2.2.2.1 (by omega)
  have hp0 : plc f w < 25 ∧ wyO f w < 4 := ⟨ix_lt hw.2.2.1, ix_lt hw.2.2.2.1⟩
  unfold lpN at hQ
  have eP : ∀ n, lpP f w n = decide (lpI f (plc f w, wyO f w) n = (plc f w, wyO f w)) := fun _ => rfl
  generalize plc f w = q0 at e2 hp0 eP
  generalize wyO f w = y0 at e3 hp0 eP
  have key := for_up (P := fun m => Q (some (vI (lpR hp (fst_ (lpP f w) (500 - m) (m + 1))).1)) (lpR hp (fst_ (lpP f w) (500 - m) (m + 1))).2 → G 54 [(4, vI (nI (m + 1))), (3, vI (nI (lpI f (q0, y0) m).2)), (2, vI (nI (lpI f (q0, y0) m).1)), (0, vR 5 52), (1, vI x)] [] hp) 500 (by
    intro hQ
    have hQ : Q (some (vI (lpR hp 501).1)) (lpR hp 501).2 := hQ
    refine run hG [54] 60 ?_
    refine And.intro (fun h4 => ?_) (fun h4 => absurd (by decide) h4)
    exact And.intro (vp_in_nI (by omega) (by omega)) hQ) (by
    intro m hm ih hQ
    have e4 : 500 - m = (500 - (m + 1)) + 1 := by omega
    rw [e4] at hQ
    have hok := lpI_ok (f := f) (p := (q0, y0)) hp0 m
    have hok1 := lpI_ok (f := f) (p := (q0, y0)) hp0 (m + 1)
    have eI : lpI f (q0, y0) (m + 1) = lpT f (lpI f (q0, y0) m) := rfl
    have eP := eP (m + 1)
    generalize lpI f (q0, y0) (m + 1) = p1 at eI ih hok1 eP
    generalize lpI f (q0, y0) m = p at eI hok
    obtain ⟨q, y⟩ := p
    have hok : q < 25 ∧ y < 4 := hok
    have e69 : nI 69 + nI q = nI (69 + q) := nI_add _ _
    -- back at the start, or on
    have done : ∀ v5, (p1 = (q0, y0) → Q (some (vI (nI (m + 1)))) hp) ∧ (¬ p1 = (q0, y0) → G 54 [(4, vI (nI (m + 1) + nI 1)), (3, vI (nI p1.2)), (2, vI (nI p1.1)), (5, v5), (0, vR 5 52), (1, vI x)] [] hp) := by
      intro v5
      refine ⟨fun h => ?_, fun h => ?_⟩
      · have e9 : fst_ (lpP f w) (500 - (m + 1) + 1) (m + 1) = m + 1 := by
          show (if lpP f w (m + 1) = true then m + 1 else _) = _
          rw [eP, if_pos (decide_eq_true h)]
        rw [e9] at hQ
        refine q_F hQ ?_
        unfold lpR
        rw [if_pos (by omega)]
      · have e9 : fst_ (lpP f w) (500 - (m + 1) + 1) (m + 1) = fst_ (lpP f w) (500 - (m + 1)) (m + 1 + 1) := by
          show (if lpP f w (m + 1) = true then m + 1 else _) = _
          rw [eP, if_neg (by rw [decide_eq_false h]; decide)]
        rw [e9] at hQ
        rw [nI_s]
        exact cl_use hG (ih hQ) ⟨rfl, rfl, rfl, rfl, rfl, trivial⟩
    have tail : ∀ v5, vp_in x 8 ∧ vp_in (nI 2) 5 := fun _ => ⟨hx8, c1 2 (by omega)⟩
    have stay : lpW f (q, y) = -1 → p1 = (q, y) := fun h => by rw [eI]; unfold lpT; rw [h, if_neg not_nn]
    have ne1 : ∀ {a b c d : Nat}, a < 2 ^ 31 → c < 2 ^ 31 → ¬ nI a = nI c → ¬ (a, b) = (c, d) := fun ha hc h e => h (by cases e; rfl)
    have ne2 : ∀ {a b c d : Nat}, ¬ nI b = nI d → ¬ (a, b) = (c, d) := fun h e => h (by cases e; rfl)
    have ey : ∀ {a b c d : Nat}, a < 100 → b < 100 → c < 100 → d < 100 → nI a = nI c → nI b = nI d → (a, b) = (c, d) := fun ha hb hc hd h1 h2 => by
      rw [(nI_eq (by omega) (by omega)).mp h1, (nI_eq (by omega) (by omega)).mp h2]
    refine run hG [54] 60 ?_
    refine And.intro (fun h4 => absurd h4 (Int32.not_lt.mpr (nI_le (by omega) (by omega)))) (fun h4 => ?_)
    refine And.intro (show vp_in (nI 69 + nI q) 184 by rw [e69]; exact vp_in_nI (by omega) (by omega)) ?_
    refine And.intro (fun h5 => ?_) (fun h5 => ?_)
    · have h5 : ¬ hp.1 53 (nI 69 + nI q).toNatClampNeg = nI 1 := h5
      rw [e69, nI_clamp (by omega), hf] at h5
      refine And.intro ⟨vp_in_nI (by omega) (by omega), vp_in_nI (by omega) (by omega)⟩ ?_
      have eW : trnV (turB (hp.1 53) (nI q).toNatClampNeg (decide (¬ nI 0 = 0))) (nI y).toNatClampNeg = lpW f (q, y) := by
        rw [nI_clamp (by omega), nI_clamp (by omega), hf]
        unfold lpW
        rw [if_neg h5]
        rfl
      rcases lpW_ok f (q, y) with h6 | ⟨j, hj, h6, hmj⟩
      · have hs := stay h6
        subst hs
        have eW1 : trnV (turB (hp.1 53) (nI q).toNatClampNeg (decide (¬ nI 0 = 0))) (nI y).toNatClampNeg = -1 := eW.trans h6
        have nn : ¬ 0 ≤ trnV (turB (hp.1 53) (nI q).toNatClampNeg (decide (¬ nI 0 = 0))) (nI y).toNatClampNeg := by rw [eW1]; exact not_nn
        refine And.intro (fun h7 => absurd h7 nn) (fun h7 => ?_)
        refine And.intro (fun h8 => absurd h8 nn) (fun h8 => ?_)
        refine And.intro ⟨hx8, c1 2 (by omega)⟩ ?_
        refine And.intro (fun h9 => ?_) (fun h9 => ?_)
        · have h9 : ¬ nI q = hp.1 53 (144 + 5 * x.toNatClampNeg + (nI 2).toNatClampNeg) := h9
          rw [e2] at h9
          exact cl_use hG ((done _).2 (ne1 (by omega) (by omega) h9)) ⟨rfl, rfl, rfl, rfl, rfl, rfl, trivial⟩
        · have h9 : nI q = hp.1 53 (144 + 5 * x.toNatClampNeg + (nI 2).toNatClampNeg) := h9
          rw [e2] at h9
          refine And.intro ⟨hx8, c1 3 (by omega)⟩ ?_
          refine And.intro (fun h10 => ?_) (fun h10 => ?_)
          · have h10 : ¬ nI y = hp.1 53 (144 + 5 * x.toNatClampNeg + (nI 3).toNatClampNeg) := h10
            rw [e3] at h10
            exact cl_use hG ((done _).2 (ne2 h10)) ⟨rfl, rfl, rfl, rfl, rfl, rfl, trivial⟩
          · have h10 : nI y = hp.1 53 (144 + 5 * x.toNatClampNeg + (nI 3).toNatClampNeg) := h10
            rw [e3] at h10
            exact (done (vI 0)).1 (ey (by omega) (by omega) (by omega) (by omega) h9 h10)
      · have hb := may_bsd hmj
        have hp1 : p1 = (bsd q j, j) := by
          rw [eI]
          unfold lpT
          rw [h6, if_pos (nI_nn (by omega)), nI_clamp (by omega)]
        subst hp1
        have eW1 : trnV (turB (hp.1 53) (nI q).toNatClampNeg (decide (¬ nI 0 = 0))) (nI y).toNatClampNeg = nI j := eW.trans h6
        have nn : 0 ≤ trnV (turB (hp.1 53) (nI q).toNatClampNeg (decide (¬ nI 0 = 0))) (nI y).toNatClampNeg := by rw [eW1]; exact nI_nn (by omega)
        have eB : bsV (nI q).toNatClampNeg (trnV (turB (hp.1 53) (nI q).toNatClampNeg (decide (¬ nI 0 = 0))) (nI y).toNatClampNeg).toNatClampNeg = nI (bsd q j) := by
          rw [eW1, nI_clamp (by omega), nI_clamp (by omega), bsV_may hb]
        have hok1 : bsd q j < 25 ∧ j < 4 := hok1
        refine And.intro (fun h7 => ?_) (fun h7 => absurd nn h7)
        refine And.intro ⟨vp_in_nI (by omega) (by omega), show vp_in (trnV (turB (hp.1 53) (nI q).toNatClampNeg (decide (¬ nI 0 = 0))) (nI y).toNatClampNeg) 4 by rw [eW1]; exact vp_in_nI hj (by omega)⟩ ?_
        refine And.intro (fun h8 => ?_) (fun h8 => absurd nn h8)
        refine And.intro ⟨hx8, c1 2 (by omega)⟩ ?_
        have go : ∀ v, v = nI (bsd q j) → ∀ u, u = nI j → ¬ (bsd q j, j) = (q0, y0) → G 54 [(4, vI (nI (m + 1) + nI 1)), (3, vI u), (2, vI v), (5, vI u), (0, vR 5 52), (1, vI x)] [] hp := by
          intro v hv u hu hne
          subst hv hu
          exact (done _).2 hne
        refine And.intro (fun h9 => ?_) (fun h9 => ?_)
        · have h9 : ¬ bsV (nI q).toNatClampNeg (trnV (turB (hp.1 53) (nI q).toNatClampNeg (decide (¬ nI 0 = 0))) (nI y).toNatClampNeg).toNatClampNeg = hp.1 53 (144 + 5 * x.toNatClampNeg + (nI 2).toNatClampNeg) := h9
          rw [e2, eB] at h9
          exact cl_use hG (go _ eB _ eW1 (ne1 (by omega) (by omega) h9)) ⟨rfl, rfl, rfl, rfl, rfl, rfl, trivial⟩
        · have h9 : bsV (nI q).toNatClampNeg (trnV (turB (hp.1 53) (nI q).toNatClampNeg (decide (¬ nI 0 = 0))) (nI y).toNatClampNeg).toNatClampNeg = hp.1 53 (144 + 5 * x.toNatClampNeg + (nI 2).toNatClampNeg) := h9
          rw [e2, eB] at h9
          refine And.intro ⟨hx8, c1 3 (by omega)⟩ ?_
          refine And.intro (fun h10 => ?_) (fun h10 => ?_)
          · have h10 : ¬ trnV (turB (hp.1 53) (nI q).toNatClampNeg (decide (¬ nI 0 = 0))) (nI y).toNatClampNeg = hp.1 53 (144 + 5 * x.toNatClampNeg + (nI 3).toNatClampNeg) := h10
            rw [e3, eW1] at h10
            exact cl_use hG (go _ eB _ eW1 (ne2 h10)) ⟨rfl, rfl, rfl, rfl, rfl, rfl, trivial⟩
          · have h10 : trnV (turB (hp.1 53) (nI q).toNatClampNeg (decide (¬ nI 0 = 0))) (nI y).toNatClampNeg = hp.1 53 (144 + 5 * x.toNatClampNeg + (nI 3).toNatClampNeg) := h10
            rw [e3, eW1] at h10
            exact (done (vI 0)).1 (ey (by omega) (by omega) (by omega) (by omega) h9 h10)
    · have h5 : hp.1 53 (nI 69 + nI q).toNatClampNeg = nI 1 := h5
      rw [e69, nI_clamp (by omega), hf] at h5
      have hs := stay (by unfold lpW; exact if_pos h5)
      subst hs
      refine And.intro (fun h7 => absurd h7 not_nn) (fun h7 => ?_)
      refine And.intro (fun h8 => absurd h8 not_nn) (fun h8 => ?_)
      refine And.intro ⟨hx8, c1 2 (by omega)⟩ ?_
      refine And.intro (fun h9 => ?_) (fun h9 => ?_)
      · have h9 : ¬ nI q = hp.1 53 (144 + 5 * x.toNatClampNeg + (nI 2).toNatClampNeg) := h9
        rw [e2] at h9
        exact cl_use hG ((done _).2 (ne1 (by omega) (by omega) h9)) ⟨rfl, rfl, rfl, rfl, rfl, rfl, trivial⟩
      · have h9 : nI q = hp.1 53 (144 + 5 * x.toNatClampNeg + (nI 2).toNatClampNeg) := h9
        rw [e2] at h9
        refine And.intro ⟨hx8, c1 3 (by omega)⟩ ?_
        refine And.intro (fun h10 => ?_) (fun h10 => ?_)
        · have h10 : ¬ nI y = hp.1 53 (144 + 5 * x.toNatClampNeg + (nI 3).toNatClampNeg) := h10
          rw [e3] at h10
          exact cl_use hG ((done _).2 (ne2 h10)) ⟨rfl, rfl, rfl, rfl, rfl, rfl, trivial⟩
        · have h10 : nI y = hp.1 53 (144 + 5 * x.toNatClampNeg + (nI 3).toNatClampNeg) := h10
          rw [e3] at h10
          exact (done (vI 0)).1 (ey (by omega) (by omega) (by omega) (by omega) h9 h10)) 0 (by omega) hQ
  have k7 : G 54 [(4, vI (nI 1)), (3, vI (nI y0)), (2, vI (nI q0)), (0, vR 5 52), (1, vI x)] [] hp := key
  rw [← e2, ← e3] at k7
  subst hf hwn
  exact cl_use hG k7 ⟨rfl, rfl, rfl, rfl, rfl, trivial⟩
theorem sc_X5_loop {own : String} {F L idx : Nat} (h1 : Cond.methodLink own idx yX5_loop ∈ Gw) (hF : 4 ≤ F) (hL : 93 ≤ L) : SC own F L (idx, false, 2, sp_X5_loop) := SC_V spH_mono c_X5_loop okd_5 (fun as hp K h => by obtain ⟨x, hx, -⟩ := spH_e h; exact ⟨_, _, d_M_I_e hx⟩) h1 gw_1129 gw_1130 gw_75 gw_1131 (by decide +kernel) hF hL
end
section
/-! rows filled from the left, and rows that are the same as far as they go -/
def filL (g o : Nat → Int64) (k : Nat) : Nat → Int64 := fun j => if j < k then g j else o j
def filI (g o : Nat → Int32) (k : Nat) : Nat → Int32 := fun j => if j < k then g j else o j
theorem filL_0 (g o : Nat → Int64) : filL g o 0 = o := by funext j; exact if_neg (by omega)
theorem filI_0 (g o : Nat → Int32) : filI g o 0 = o := by funext j; exact if_neg (by omega)
theorem filL_s (g o : Nat → Int64) (k : Nat) : vp_updL (filL g o k) k (g k) = filL g o (k + 1) := by
  funext j
  rw [upL_at]
  unfold filL
  by_cases h2 : j = k
  · subst h2
    rw [if_pos rfl, if_pos (by omega)]
  · rw [if_neg h2]
    by_cases h3 : j < k
    · rw [if_pos h3, if_pos (by omega)]
    · rw [if_neg h3, if_neg (by omega)]
theorem filI_s (g o : Nat → Int32) (k : Nat) : upd (filI g o k) k (g k) = filI g o (k + 1) := by
  funext j
  rw [upd_at]
  unfold filI
  by_cases h2 : j = k
  · subst h2
    rw [if_pos rfl, if_pos (by omega)]
  · rw [if_neg h2]
    by_cases h3 : j < k
    · rw [if_pos h3, if_pos (by omega)]
    · rw [if_neg h3, if_neg (by omega)]
theorem heq_L {hp hq : HP} (h : heq hp hq) {c : Nat} {f g : Nat → Int64} (e : ∀ j, j < lenc c → f j = g j) : heq (rL hp c f) (rL hq c g) := by
  intro d hd j hj
  refine ⟨(h d hd j hj).1, ?_⟩
  by_cases hdc : d = c
  · subst hdc
    rw [rL_eq, rL_eq]
    exact e j hj
  · rw [rL_ne _ _ hdc, rL_ne _ _ hdc]
    exact (h d hd j hj).2
theorem heq_I {hp hq : HP} (h : heq hp hq) {c : Nat} {f g : Nat → Int32} (e : ∀ j, j < lenc c → f j = g j) : heq (rI hp c f) (rI hq c g) := by
  intro d hd j hj
  refine ⟨?_, (h d hd j hj).2⟩
  by_cases hdc : d = c
  · subst hdc
    rw [rI_eq, rI_eq]
    exact e j hj
  · rw [rI_ne _ _ hdc, rI_ne _ _ hdc]
    exact (h d hd j hj).1
theorem filL_all {g o : Nat → Int64} {n : Nat} : ∀ j, j < n → filL g o n j = g j := fun _ h => if_pos h
theorem filI_all {g o : Nat → Int32} {n : Nat} : ∀ j, j < n → filI g o n j = g j := fun _ h => if_pos h
theorem rL_comm (hp : HP) {c d : Nat} (f g : Nat → Int64) (h : c ≠ d) : rL (rL hp c f) d g = rL (rL hp d g) c f := by
  refine Prod.ext rfl ?_
  funext e
  by_cases h1 : e = d
  · subst h1
    rw [rL_eq, rL_ne _ _ (Ne.symm h), rL_eq]
  · by_cases h2 : e = c
    · subst h2
      rw [rL_ne _ _ h1, rL_eq, rL_eq]
    · rw [rL_ne _ _ h1, rL_ne _ _ h2, rL_ne _ _ h2, rL_ne _ _ h1]
theorem uL_r (hp : HP) (c k : Nat) (v : Int64) : uL hp c k v = rL hp c (vp_updL (hp.2 c) k v) := rfl
theorem uL_rL (hp : HP) (c k : Nat) (f : Nat → Int64) (v : Int64) : uL (rL hp c f) c k v = rL hp c (vp_updL f k v) := by rw [uL_r, rL_eq, rL_rL]
/-! the odds -/
def spM (f : Nat → Int32) (q : Nat) : Int32 := if f (69 + q) = nI 1 then nI 0 else waysC (mayB f q)
def spA (f : Nat → Int32) (p : Nat → Int64) (q : Nat) (nx : Nat → Int64) : Nat → Int64 := vp_updL nx q (nx q + (if spM f q = 0 then 12 * p q else lN 0))
def spB (f : Nat → Int32) (p : Nat → Int64) (q w : Nat) (nx : Nat → Int64) : Nat → Int64 := if spM f q >>> (nI w &&& 31) &&& nI 1 = nI 1 then vp_updL nx (bsd q w) (nx (bsd q w) + (nI 12 / onesV (spM f q)).toInt64 * p q) else nx
def spW (f : Nat → Int32) (p : Nat → Int64) (q : Nat) (nx : Nat → Int64) : Nat → (Nat → Int64)
  | 0 => nx
  | w + 1 => spB f p q w (spW f p q nx w)
def spQ (f : Nat → Int32) (p : Nat → Int64) : Nat → (Nat → Int64)
  | 0 => fun _ => lN 0
  | q + 1 => spW f p q (spA f p q (spQ f p q)) 4
def spO (a : Int32) : Nat → Int64 := fun j => if nI j = a then lN 1 else lN 0
def spd (f : Nat → Int32) (a : Int32) : Nat → (Nat → Int64)
  | 0 => spO a
  | n + 1 => spQ f (spd f a n) 25
theorem ways_bit (c : Nat → Bool) {w : Nat} (hw : w < 4) (h : waysC c >>> (nI w &&& 31) &&& nI 1 = nI 1) : c w = true := by
  have hw' : w = 0 ∨ w = 1 ∨ w = 2 ∨ w = 3 := by omega
  unfold waysC at h
  simp only [fold, waysG] at h
  cases h0 : c 0 <;> cases h1 : c 1 <;> cases h2 : c 2 <;> cases h3 : c 3 <;> rcases hw' with e | e | e | e <;> subst e <;> first | assumption | (rw [h0, h1, h2, h3] at h; exact absurd h (by decide))
theorem spM_bit {f : Nat → Int32} {q w : Nat} (hw : w < 4) (h : spM f q >>> (nI w &&& 31) &&& nI 1 = nI 1) : mayB f q w = true ∧ ¬ onesV (spM f q) = 0 := by
  unfold spM at h ⊢
  by_cases h1 : f (69 + q) = nI 1
  · rw [if_pos h1] at h
    have hw' : w = 0 ∨ w = 1 ∨ w = 2 ∨ w = 3 := by omega
    rcases hw' with e | e | e | e <;> subst e <;> exact absurd h (by decide)
  · rw [if_neg h1] at h ⊢
    have hc := ways_bit _ hw h
    refine ⟨hc, ?_⟩
    rw [ones_rc]
    have : 0 < rc (mayB f q) 4 0 := by
      have hw' : w = 0 ∨ w = 1 ∨ w = 2 ∨ w = 3 := by omega
      simp only [rc]
      rcases hw' with e | e | e | e <;> subst e <;> rw [hc, if_pos rfl] <;> omega
    have h4 : rc (mayB f q) 4 0 ≤ 4 := by
      simp only [rc]
      repeat' split
      all_goals omega
    intro h0
    have := (nI_eq (a := rc (mayB f q) 4 0) (b := 0) (by omega) (by omega)).mp h0
    omega
def sp_X5_spreads : SP := spF d_M_II (fun x _ => vp_in x.2 1000) (fun x hp v hq => v = none ∧ ∃ g, hq = rL (rL hp 61 g) 60 (spd (hp.1 53) x.1 x.2.toNatClampNeg))
def E_X5_spreads : EN := [(110, false, 2, sp_X5_waysFrom), (63, true, 2, sp_X5_beside), (124, true, 1, sp_X5_ones)]
set_option maxRecDepth 100000 in
set_option maxHeartbeats 4000000 in
theorem c_X5_spreads : Ctr M_X5_spreads sp_X5_spreads := by
  refine ctr_of (own := RX5) M_X5_spreads sp_X5_spreads (P := P_X5_spreads) (K := K_X5) (E := E_X5_spreads) (by decide) rfl pk_X5_spreads K_X5_ok (List.forall_mem_cons.mpr ⟨sc_X5_waysFrom gw_966 (by decide) (by decide), List.forall_mem_cons.mpr ⟨sc_X5_beside gw_889 (by decide) (by decide), List.forall_mem_cons.mpr ⟨sc_X5_ones gw_1022 (by decide) (by decide), fun _ h => absurd h List.not_mem_nil⟩⟩⟩) (fun as hp Q h => by obtain ⟨x, hx, -⟩ := spF_e h; rw [d_M_II_e hx]; exact Nat.le_of_ble_eq_true rfl) ?_
  intro Q G hQi hG as hp h
  obtain ⟨x, hx, hpre, hQ⟩ := spF_e h
  rw [d_M_II_e hx]
  clear h hx
  obtain ⟨a, n⟩ := x
  try dsimp only at hpre hQ ⊢
  obtain ⟨N, hN, rfl⟩ := vp_in_of hpre (by omega)
  rw [nI_clamp (by omega)] at hQ
  have ef : ∀ g p, (rL (rL hp 61 g) 60 p).1 53 = hp.1 53 := fun g p => rfl
  generalize hf : hp.1 53 = f at hQ ef
  have e61 : ∀ g p, (rL (rL hp 61 g) 60 p).2 61 = g := fun g p => by rw [rL_ne _ _ (by omega), rL_eq]
  have e60 : ∀ g p, (rL (rL hp 61 g) 60 p).2 60 = p := fun g p => rL_eq _ _ _
  have u61 : ∀ g p k v, uL (rL (rL hp 61 g) 60 p) 61 k v = rL (rL hp 61 (vp_updL g k v)) 60 p := fun g p k v => by rw [uL_r, e61, rL_comm _ _ _ (by omega), rL_rL]
  have u60 : ∀ g p k v, uL (rL (rL hp 61 g) 60 p) 60 k v = rL (rL hp 61 g) 60 (vp_updL p k v) := fun g p k v => by rw [uL_rL]
  have min := for_up (P := fun n => ∀ g, G 32 [(3, vI (nI n)), (0, vR 5 52), (1, vI a), (2, vI (nI N))] [] (rL (rL hp 61 g) 60 (spd f a n))) N (by
    intro g
    refine run hG [32] 60 ?_
    refine And.intro (fun h1 => ?_) (fun h1 => absurd (nI_le (Nat.le_refl _) (by omega)) h1)
    exact hQ _ _ ⟨rfl, g, rfl⟩) (by
    intro n hn ih g
    have ih : ∀ g, G 32 [(3, vI (nI (n + 1))), (0, vR 5 52), (1, vI a), (2, vI (nI N))] [] (rL (rL hp 61 g) 60 (spQ f (spd f a n) 25)) := ih
    generalize spd f a n = p at ih
    -- the copy
    have cpy := for_up (P := fun k => G 194 [(4, vI (nI k)), (3, vI (nI n)), (0, vR 5 52), (1, vI a), (2, vI (nI N))] [] (rL (rL hp 61 (spQ f p 25)) 60 (filL (spQ f p 25) p k))) 25 (by
      refine run hG [194, 32] 60 ?_
      refine And.intro (fun h1 => ?_) (fun h1 => absurd (nI_le (Nat.le_refl _) (by omega)) h1)
      refine cl_lv hG [(3, vI (nI n + nI 1)), (0, vR 5 52), (1, vI a), (2, vI (nI N))] ⟨rfl, rfl, rfl, rfl, trivial⟩ ?_
      rw [nI_s]
      exact cl_hp hG (heq_L heq.rfl (fun j hj => (filL_all j hj).symm)) (ih _)) (by
      intro k hk ih
      refine run hG [194, 32] 60 ?_
      refine And.intro (fun h1 => absurd h1 (nI_ge hk (by omega))) (fun h1 => ?_)
      refine And.intro (vp_in_nI (by omega) (by omega)) ?_
      refine And.intro (vp_in_nI (by omega) (by omega)) ?_
      refine cl_lv hG [(4, vI (nI k + nI 1)), (3, vI (nI n)), (0, vR 5 52), (1, vI a), (2, vI (nI N))] ⟨rfl, rfl, rfl, rfl, rfl, trivial⟩ ?_
      rw [nI_s]
      show G 194 _ [] (uL (rL (rL hp 61 (spQ f p 25)) 60 (filL (spQ f p 25) p k)) 60 (nI k).toNatClampNeg ((rL (rL hp 61 (spQ f p 25)) 60 (filL (spQ f p 25) p k)).2 61 (nI k).toNatClampNeg))
      rw [e61, u60, nI_clamp (by omega), filL_s]
      exact ih) 0 (by omega)
    rw [filL_0] at cpy
    have sqs := for_up (P := fun q => G 64 [(4, vI (nI q)), (3, vI (nI n)), (0, vR 5 52), (1, vI a), (2, vI (nI N))] [] (rL (rL hp 61 (spQ f p q)) 60 p)) 25 (by
      refine run hG [194, 64] 60 ?_
      refine And.intro (fun h1 => ?_) (fun h1 => absurd (nI_le (Nat.le_refl _) (by omega)) h1)
      exact cl_use hG cpy ⟨rfl, rfl, rfl, rfl, rfl, trivial⟩) (by
      intro q hq ih
      have ih : G 64 [(4, vI (nI (q + 1))), (3, vI (nI n)), (0, vR 5 52), (1, vI a), (2, vI (nI N))] [] (rL (rL hp 61 (spW f p q (spA f p q (spQ f p q)) 4)) 60 p) := ih
      generalize hnx : spA f p q (spQ f p q) = nx at ih
      have eq : (nI q).toNatClampNeg = q := nI_clamp (by omega)
      have wys := for_up (P := fun w => G 130 [(6, vI (nI w)), (5, vI (spM f q)), (4, vI (nI q)), (3, vI (nI n)), (0, vR 5 52), (1, vI a), (2, vI (nI N))] [] (rL (rL hp 61 (spW f p q nx w)) 60 p)) 4 (by
        refine run hG [130, 64] 60 ?_
        refine And.intro (fun h1 => ?_) (fun h1 => absurd (nI_le (Nat.le_refl _) (by omega)) h1)
        refine cl_lv hG [(4, vI (nI q + nI 1)), (3, vI (nI n)), (0, vR 5 52), (1, vI a), (2, vI (nI N))] ⟨rfl, rfl, rfl, rfl, rfl, trivial⟩ ?_
        rw [nI_s]
        exact ih) (by
        intro w hw ih
        have ih : G 130 [(6, vI (nI (w + 1))), (5, vI (spM f q)), (4, vI (nI q)), (3, vI (nI n)), (0, vR 5 52), (1, vI a), (2, vI (nI N))] [] (rL (rL hp 61 (spB f p q w (spW f p q nx w))) 60 p) := ih
        generalize spW f p q nx w = ny at ih
        unfold spB at ih
        have ew : (nI w).toNatClampNeg = w := nI_clamp (by omega)
        refine run hG [130, 64] 60 ?_
        refine And.intro (fun h1 => absurd h1 (nI_ge hw (by omega))) (fun h1 => ?_)
        refine And.intro (fun h2 => ?_) (fun h2 => ?_)
        · have h2 : ¬ spM f q >>> (nI w &&& 31) &&& nI 1 = nI 1 := h2
          rw [if_neg h2] at ih
          refine cl_lv hG [(6, vI (nI w + nI 1)), (5, vI (spM f q)), (4, vI (nI q)), (3, vI (nI n)), (0, vR 5 52), (1, vI a), (2, vI (nI N))] ⟨rfl, rfl, rfl, rfl, rfl, rfl, rfl, trivial⟩ ?_
          rw [nI_s]
          exact ih
        · have h2 : spM f q >>> (nI w &&& 31) &&& nI 1 = nI 1 := h2
          rw [if_pos h2] at ih
          have hb := spM_bit hw h2
          have hb9 := may_bsd hb.1
          have hb25 : bsd q w < 25 := by rcases bsd_lt q hq w hw with h | h <;> omega
          have ev : bsV (nI q).toNatClampNeg (nI w).toNatClampNeg = nI (bsd q w) := by rw [eq, ew, bsV_may hb9]
          have iv : vp_in (bsV (nI q).toNatClampNeg (nI w).toNatClampNeg) 25 := by rw [ev]; exact vp_in_nI hb25 (by omega)
          refine And.intro ⟨vp_in_nI (by omega) (by omega), vp_in_nI (by omega) (by omega)⟩ ?_
          refine And.intro iv ?_
          refine And.intro trivial ?_
          refine And.intro hb.2 ?_
          refine And.intro (vp_in_nI (by omega) (by omega)) ?_
          refine And.intro iv ?_
          refine cl_lv hG [(6, vI (nI w + nI 1)), (5, vI (spM f q)), (4, vI (nI q)), (3, vI (nI n)), (0, vR 5 52), (1, vI a), (2, vI (nI N))] ⟨rfl, rfl, rfl, rfl, rfl, rfl, rfl, trivial⟩ ?_
          rw [nI_s]
          show G 130 _ [] (uL (rL (rL hp 61 ny) 60 p) 61 (bsV (nI q).toNatClampNeg (nI w).toNatClampNeg).toNatClampNeg ((rL (rL hp 61 ny) 60 p).2 61 (bsV (nI q).toNatClampNeg (nI w).toNatClampNeg).toNatClampNeg + (nI 12 / onesV (spM f q)).toInt64 * (rL (rL hp 61 ny) 60 p).2 60 (nI q).toNatClampNeg))
          rw [u61, e61, e60, ev, nI_clamp (by omega), eq]
          exact ih) 0 (by omega)
      have wys : G 130 [(6, vI (nI 0)), (5, vI (spM f q)), (4, vI (nI q)), (3, vI (nI n)), (0, vR 5 52), (1, vI a), (2, vI (nI N))] [] (rL (rL hp 61 nx) 60 p) := wys
      have e69 : nI 69 + nI q = nI (69 + q) := nI_add _ _
      have i25 : vp_in (nI q) 25 := vp_in_nI hq (by omega)
      unfold spA at hnx
      have fin : ∀ v m, m = spM f q → (spQ f p q) q + (if spM f q = 0 then 12 * p q else lN 0) = v → G 130 [(6, vI (nI 0)), (5, vI m), (4, vI (nI q)), (3, vI (nI n)), (0, vR 5 52), (1, vI a), (2, vI (nI N))] [] (uL (rL (rL hp 61 (spQ f p q)) 60 p) 61 (nI q).toNatClampNeg v) := by
        intro v m hm hv
        rw [u61, eq, ← hv, hnx, hm]
        exact wys
      refine run hG [64, 130] 60 ?_
      refine And.intro (fun h1 => absurd h1 (nI_ge hq (by omega))) (fun h1 => ?_)
      refine And.intro (show vp_in (nI 69 + nI q) 184 by rw [e69]; exact vp_in_nI (by omega) (by omega)) ?_
      refine And.intro (fun h2 => ?_) (fun h2 => ?_)
      · have h2 : ¬ (rL (rL hp 61 (spQ f p q)) 60 p).1 53 (nI 69 + nI q).toNatClampNeg = nI 1 := h2
        rw [ef, e69, nI_clamp (by omega)] at h2
        refine And.intro i25 ?_
        have em : waysC (mayB ((rL (rL hp 61 (spQ f p q)) 60 p).1 53) (nI q).toNatClampNeg) = spM f q := by
          rw [ef, eq]
          unfold spM
          rw [if_neg h2]
        refine And.intro i25 ?_
        refine And.intro (fun h3 => ?_) (fun h3 => ?_)
        · have h3 : ¬ waysC (mayB ((rL (rL hp 61 (spQ f p q)) 60 p).1 53) (nI q).toNatClampNeg) = 0 := h3
          refine And.intro i25 ?_
          refine cl_use hG (fin _ _ em ?_) ⟨rfl, rfl, rfl, rfl, rfl, rfl, rfl, trivial⟩
          rw [em] at h3
          rw [if_neg h3, e61, eq]
          rfl
        · have h3 : waysC (mayB ((rL (rL hp 61 (spQ f p q)) 60 p).1 53) (nI q).toNatClampNeg) = 0 := h3
          refine And.intro i25 ?_
          refine And.intro i25 ?_
          refine cl_use hG (fin _ _ em ?_) ⟨rfl, rfl, rfl, rfl, rfl, rfl, rfl, trivial⟩
          rw [em] at h3
          rw [if_pos h3, e61, eq, e60]
      · have h2 : (rL (rL hp 61 (spQ f p q)) 60 p).1 53 (nI 69 + nI q).toNatClampNeg = nI 1 := h2
        rw [ef, e69, nI_clamp (by omega)] at h2
        have em : nI 0 = spM f q := by
          unfold spM
          rw [if_pos h2]
        refine And.intro i25 ?_
        refine And.intro (fun h3 => absurd (by decide) h3) (fun h3 => ?_)
        refine And.intro i25 ?_
        refine And.intro i25 ?_
        refine cl_use hG (fin _ _ em ?_) ⟨rfl, rfl, rfl, rfl, rfl, rfl, rfl, trivial⟩
        rw [if_pos (show spM f q = 0 from em.symm), e61, eq, e60]) 0 (by omega)
    have sqs : G 64 [(4, vI (nI 0)), (3, vI (nI n)), (0, vR 5 52), (1, vI a), (2, vI (nI N))] [] (rL (rL hp 61 (fun _ => lN 0)) 60 p) := sqs
    have zer := for_up (P := fun k => G 40 [(4, vI (nI k)), (3, vI (nI n)), (0, vR 5 52), (1, vI a), (2, vI (nI N))] [] (rL (rL hp 61 (filL (fun _ => lN 0) g k)) 60 p)) 25 (by
      refine run hG [40, 64] 60 ?_
      refine And.intro (fun h1 => ?_) (fun h1 => absurd (nI_le (Nat.le_refl _) (by omega)) h1)
      refine cl_lv hG [(4, vI (nI 0)), (3, vI (nI n)), (0, vR 5 52), (1, vI a), (2, vI (nI N))] ⟨rfl, rfl, rfl, rfl, rfl, trivial⟩ ?_
      exact cl_hp hG (heq_L (heq_L heq.rfl (fun j hj => (filL_all j hj).symm)) (fun _ _ => rfl)) sqs) (by
      intro k hk ih
      refine run hG [40, 64] 60 ?_
      refine And.intro (fun h1 => absurd h1 (nI_ge hk (by omega))) (fun h1 => ?_)
      refine And.intro (vp_in_nI (by omega) (by omega)) ?_
      refine cl_lv hG [(4, vI (nI k + nI 1)), (3, vI (nI n)), (0, vR 5 52), (1, vI a), (2, vI (nI N))] ⟨rfl, rfl, rfl, rfl, rfl, trivial⟩ ?_
      rw [nI_s]
      show G 40 _ [] (uL (rL (rL hp 61 (filL (fun _ => lN 0) g k)) 60 p) 61 (nI k).toNatClampNeg (lN 0))
      rw [u61, nI_clamp (by omega)]
      rw [← filL_s] at ih
      exact ih) 0 (by omega)
    rw [filL_0] at zer
    refine run hG [32, 40] 60 ?_
    refine And.intro (fun h1 => absurd h1 (nI_ge hn (by omega))) (fun h1 => ?_)
    exact cl_use hG zer ⟨rfl, rfl, rfl, rfl, rfl, trivial⟩) 0 (by omega)
  have min : ∀ g, G 32 [(3, vI (nI 0)), (0, vR 5 52), (1, vI a), (2, vI (nI N))] [] (rL (rL hp 61 g) 60 (spO a)) := min
  have ini := for_up (P := fun k => G 2 [(3, vI (nI k)), (0, vR 5 52), (1, vI a), (2, vI (nI N))] [] (rL (rL hp 61 (hp.2 61)) 60 (filL (spO a) (hp.2 60) k))) 25 (by
    refine run hG [2, 32] 60 ?_
    refine And.intro (fun h1 => ?_) (fun h1 => absurd (nI_le (Nat.le_refl _) (by omega)) h1)
    refine cl_lv hG [(3, vI (nI 0)), (0, vR 5 52), (1, vI a), (2, vI (nI N))] ⟨rfl, rfl, rfl, rfl, trivial⟩ ?_
    exact cl_hp hG (heq_L heq.rfl (fun j hj => (filL_all j hj).symm)) (min _)) (by
    intro k hk ih
    rw [← filL_s] at ih
    refine run hG [2, 32] 60 ?_
    refine And.intro (fun h1 => absurd h1 (nI_ge hk (by omega))) (fun h1 => ?_)
    refine And.intro (fun h2 => ?_) (fun h2 => ?_)
    · have h2 : ¬ nI k = a := h2
      refine And.intro (vp_in_nI (by omega) (by omega)) ?_
      refine cl_lv hG [(3, vI (nI k + nI 1)), (0, vR 5 52), (1, vI a), (2, vI (nI N))] ⟨rfl, rfl, rfl, rfl, trivial⟩ ?_
      rw [nI_s]
      show G 2 _ [] (uL (rL (rL hp 61 (hp.2 61)) 60 (filL (spO a) (hp.2 60) k)) 60 (nI k).toNatClampNeg (lN 0))
      rw [u60, nI_clamp (by omega)]
      rw [show spO a k = lN 0 from if_neg h2] at ih
      exact ih
    · have h2 : nI k = a := h2
      refine And.intro (vp_in_nI (by omega) (by omega)) ?_
      refine cl_lv hG [(3, vI (nI k + nI 1)), (0, vR 5 52), (1, vI a), (2, vI (nI N))] ⟨rfl, rfl, rfl, rfl, trivial⟩ ?_
      rw [nI_s]
      show G 2 _ [] (uL (rL (rL hp 61 (hp.2 61)) 60 (filL (spO a) (hp.2 60) k)) 60 (nI k).toNatClampNeg (lN 1))
      rw [u60, nI_clamp (by omega)]
      rw [show spO a k = lN 1 from if_pos h2] at ih
      exact ih) 0 (by omega)
  rw [filL_0, rL_self, rL_self] at ini
  refine run hG [2] 60 ?_
  exact cl_use hG ini ⟨rfl, rfl, rfl, rfl, trivial⟩
theorem sc_X5_spreads {own : String} {F L idx : Nat} (h1 : Cond.methodLink own idx yX5_spreads ∈ Gw) (hF : 4 ≤ F) (hL : 92 ≤ L) : SC own F L (idx, false, 3, sp_X5_spreads) := SC_V spF_mono c_X5_spreads okd_5 (fun as hp K h => by obtain ⟨x, hx, -⟩ := spF_e h; exact ⟨_, _, d_M_II_e hx⟩) h1 gw_1138 gw_50 gw_75 gw_1139 (by decide +kernel) hF hL
end
section
def noL (hp : HP) (k : Nat) : Int64 × HP := ((noP hp k).1.toInt64, (noP hp k).2)
def F_odds (w q n : Int32) (hp : HP) : Int64 × HP := if inB w (mN (hp.1 53)) = true ∧ inB q 25 = true ∧ inB n 16 = true then (if hp.1 53 (144 + 5 * w.toNatClampNeg) = nI 4 then (spd (hp.1 53) (hp.1 53 (144 + 5 * w.toNatClampNeg + 2)) n.toNatClampNeg q.toNatClampNeg, hp) else noL hp 4) else noL hp 0
def sp_X5_odds : SP := spF d_M_III (fun _ hp => WF (hp.1 53)) (fun x hp v hq => v = some (vL (F_odds x.1 x.2.1 x.2.2 hp).1) ∧ ∃ g e, hq = rL (rL (F_odds x.1 x.2.1 x.2.2 hp).2 61 g) 60 e)
theorem rL_id {hp : HP} {c : Nat} {f : Nat → Int64} (h : hp.2 c = f) : rL hp c f = hp := by rw [← h, rL_self]
theorem rL_2 (hp : HP) : hp = rL (rL hp 61 (hp.2 61)) 60 (hp.2 60) := by
  rw [rL_self, rL_self]
def E_X5_odds : EN := [(107, false, 2, sp_X5_isWalker), (69, true, 1, sp_X5_isSquare), (55, true, 3, sp_X5_in), (79, false, 2, sp_X5_no), (59, false, 3, sp_X5_has), (185, false, 3, sp_X5_spreads)]
set_option maxRecDepth 100000 in
set_option maxHeartbeats 4000000 in
theorem c_X5_odds : Ctr M_X5_odds sp_X5_odds := by
  refine ctr_of (own := RX5) M_X5_odds sp_X5_odds (P := P_X5_odds) (K := K_X5) (E := E_X5_odds) (by decide) rfl pk_X5_odds K_X5_ok (List.forall_mem_cons.mpr ⟨sc_X5_isWalker gw_962 (by decide) (by decide), List.forall_mem_cons.mpr ⟨sc_X5_isSquare gw_880 (by decide) (by decide), List.forall_mem_cons.mpr ⟨sc_X5_in gw_883 (by decide) (by decide), List.forall_mem_cons.mpr ⟨sc_X5_no gw_895 (by decide) (by decide), List.forall_mem_cons.mpr ⟨sc_X5_has gw_924 (by decide) (by decide), List.forall_mem_cons.mpr ⟨sc_X5_spreads gw_1136 (by decide) (by decide), fun _ h => absurd h List.not_mem_nil⟩⟩⟩⟩⟩⟩) (fun as hp Q h => by obtain ⟨x, hx, -⟩ := spF_e h; rw [d_M_III_e hx]; exact Nat.le_of_ble_eq_true rfl) ?_
  intro Q G hQi hG as hp h
  obtain ⟨x, hx, hpre, hQ⟩ := spF_e h
  rw [d_M_III_e hx]
  clear h hx
  obtain ⟨w, q, n⟩ := x
  try dsimp only at hpre hQ ⊢
  have fin : ∀ p, F_odds w q n hp = p → Q (some (vL p.1)) p.2 := fun p e => hQ _ _ ⟨by rw [e], _, _, by rw [e]; exact rL_2 _⟩
  have c1 : ∀ j, j < 5 → vp_in (nI j) 5 := fun j hj => vp_in_nI hj (by omega)
  refine run hG [] 60 ?_
  refine And.intro hpre.many ?_
  refine And.intro (fun h1 => ?_) (fun h1 => ?_)
  case refine_1 =>
    have h1 : inB w (mN (hp.1 53)) = false := bB_0.mp h1
    exact And.intro (vp_in_nI (by omega) (by omega)) (fin (noL hp 0) (if_neg (fun h => by rw [h1] at h; exact absurd h.1 (by decide))))
  have h1 : inB w (mN (hp.1 53)) = true := bB_1.mp h1
  refine And.intro trivial ?_
  refine And.intro (fun h2 => ?_) (fun h2 => ?_)
  case refine_1 =>
    have h2 : inB q 25 = false := bB_0.mp h2
    exact And.intro (vp_in_nI (by omega) (by omega)) (fin (noL hp 0) (if_neg (fun h => by rw [h2] at h; exact absurd h.2.1 (by decide))))
  have h2 : inB q 25 = true := bB_1.mp h2
  refine And.intro trivial ?_
  refine And.intro (fun h3 => ?_) (fun h3 => ?_)
  case refine_2 =>
    have h3 := bB_0.mp h3
    rw [in_b (by omega)] at h3
    exact And.intro (vp_in_nI (by omega) (by omega)) (fin (noL hp 0) (if_neg (fun h => by rw [h3] at h; exact absurd h.2.2 (by decide))))
  have h3 := bB_1.mp h3
  rw [in_b (by omega)] at h3
  have h3 : inB n 16 = true := h3
  have hF : F_odds w q n hp = _ := if_pos ⟨h1, h2, h3⟩
  have hx8 := in8 hpre.many h1
  refine And.intro ⟨hx8, c1 0 (by omega)⟩ ?_
  refine And.intro (fun h4 => ?_) (fun h4 => ?_)
  · have h4 : hp.1 53 (144 + 5 * w.toNatClampNeg) = nI 4 := h4
    rw [if_pos h4] at hF
    refine And.intro ⟨hx8, c1 2 (by omega)⟩ ?_
    refine And.intro (in_mono (inB_t.mp h3) (by omega)) ?_
    rintro v hq ⟨rfl, g, rfl⟩
    refine And.intro (inB_t.mp h2) ?_
    refine hQ _ _ ⟨?_, g, spd (hp.1 53) (hp.1 53 (144 + 5 * w.toNatClampNeg + 2)) n.toNatClampNeg, by rw [hF]; rfl⟩
    rw [hF]
    show some (vL ((rL (rL hp 61 g) 60 _).2 60 q.toNatClampNeg)) = _
    rw [rL_eq]
    rfl
  · have h4 : ¬ hp.1 53 (144 + 5 * w.toNatClampNeg) = nI 4 := h4
    rw [if_neg h4] at hF
    exact And.intro (vp_in_nI (by omega) (by omega)) (fin _ hF)
theorem sc_X5_odds {own : String} {F L idx : Nat} (h1 : Cond.methodLink own idx yX5_odds ∈ Gw) (hF : 5 ≤ F) (hL : 115 ≤ L) : SC own F L (idx, false, 4, sp_X5_odds) := SC_V spF_mono c_X5_odds okd_5 (fun as hp K h => by obtain ⟨x, hx, -⟩ := spF_e h; exact ⟨_, _, d_M_III_e hx⟩) h1 gw_1133 gw_1134 gw_75 gw_1135 (by decide +kernel) hF hL
def lkB (p : Nat → Int64) : Nat → Nat
  | 0 => 0
  | k + 1 => if p (k + 1) ≤ p (lkB p k) then lkB p k else k + 1
theorem lkB_le (p : Nat → Int64) : ∀ k, lkB p k ≤ k
  | 0 => Nat.le_refl _
  | k + 1 => by
    unfold lkB
    split
    · exact Nat.le_succ_of_le (lkB_le p k)
    · exact Nat.le_refl _
def F_likely (w n : Int32) (hp : HP) : Int32 × HP := if inB w (mN (hp.1 53)) = true ∧ inB n 16 = true then (if hp.1 53 (144 + 5 * w.toNatClampNeg) = nI 4 then (nI (lkB (spd (hp.1 53) (hp.1 53 (144 + 5 * w.toNatClampNeg + 2)) n.toNatClampNeg) 24), hp) else noP hp 4) else noP hp 0
def sp_X5_likeliest : SP := spF d_M_II (fun _ hp => WF (hp.1 53)) (fun x hp v hq => v = some (vI (F_likely x.1 x.2 hp).1) ∧ ∃ g e, hq = rL (rL (F_likely x.1 x.2 hp).2 61 g) 60 e)
def E_X5_likeliest : EN := [(107, false, 2, sp_X5_isWalker), (55, true, 3, sp_X5_in), (79, false, 2, sp_X5_no), (59, false, 3, sp_X5_has), (185, false, 3, sp_X5_spreads)]
set_option maxRecDepth 100000 in
set_option maxHeartbeats 4000000 in
theorem c_X5_likeliest : Ctr M_X5_likeliest sp_X5_likeliest := by
  refine ctr_of (own := RX5) M_X5_likeliest sp_X5_likeliest (P := P_X5_likeliest) (K := K_X5) (E := E_X5_likeliest) (by decide) rfl pk_X5_likeliest K_X5_ok (List.forall_mem_cons.mpr ⟨sc_X5_isWalker gw_962 (by decide) (by decide), List.forall_mem_cons.mpr ⟨sc_X5_in gw_883 (by decide) (by decide), List.forall_mem_cons.mpr ⟨sc_X5_no gw_895 (by decide) (by decide), List.forall_mem_cons.mpr ⟨sc_X5_has gw_924 (by decide) (by decide), List.forall_mem_cons.mpr ⟨sc_X5_spreads gw_1136 (by decide) (by decide), fun _ h => absurd h List.not_mem_nil⟩⟩⟩⟩⟩) (fun as hp Q h => by obtain ⟨x, hx, -⟩ := spF_e h; rw [d_M_II_e hx]; exact Nat.le_of_ble_eq_true rfl) ?_
  intro Q G hQi hG as hp h
  obtain ⟨x, hx, hpre, hQ⟩ := spF_e h
  rw [d_M_II_e hx]
  clear h hx
  obtain ⟨w, n⟩ := x
  try dsimp only at hpre hQ ⊢
  have fin : ∀ p, F_likely w n hp = p → Q (some (vI p.1)) p.2 := fun p e => hQ _ _ ⟨by rw [e], _, _, by rw [e]; exact rL_2 _⟩
  have c1 : ∀ j, j < 5 → vp_in (nI j) 5 := fun j hj => vp_in_nI hj (by omega)
  refine run hG [56] 60 ?_
  refine And.intro hpre.many ?_
  refine And.intro (fun h1 => ?_) (fun h1 => ?_)
  case refine_1 =>
    have h1 : inB w (mN (hp.1 53)) = false := bB_0.mp h1
    exact And.intro (vp_in_nI (by omega) (by omega)) (fin _ (if_neg (fun h => by rw [h1] at h; exact absurd h.1 (by decide))))
  have h1 : inB w (mN (hp.1 53)) = true := bB_1.mp h1
  refine And.intro trivial ?_
  refine And.intro (fun h3 => ?_) (fun h3 => ?_)
  case refine_2 =>
    have h3 := bB_0.mp h3
    rw [in_b (by omega)] at h3
    exact And.intro (vp_in_nI (by omega) (by omega)) (fin _ (if_neg (fun h => by rw [h3] at h; exact absurd h.2 (by decide))))
  have h3 := bB_1.mp h3
  rw [in_b (by omega)] at h3
  have h3 : inB n 16 = true := h3
  have hF : F_likely w n hp = _ := if_pos ⟨h1, h3⟩
  have hx8 := in8 hpre.many h1
  refine And.intro ⟨hx8, c1 0 (by omega)⟩ ?_
  refine And.intro (fun h4 => ?_) (fun h4 => ?_)
  · have h4 : hp.1 53 (144 + 5 * w.toNatClampNeg) = nI 4 := h4
    rw [if_pos h4] at hF
    refine And.intro ⟨hx8, c1 2 (by omega)⟩ ?_
    refine And.intro (in_mono (inB_t.mp h3) (by omega)) ?_
    rintro v hq ⟨rfl, g, rfl⟩
    have hF : F_likely w n hp = (nI (lkB (spd (hp.1 53) (hp.1 53 (144 + 5 * w.toNatClampNeg + (nI 2).toNatClampNeg)) n.toNatClampNeg) 24), hp) := hF
    generalize hsp : spd (hp.1 53) (hp.1 53 (144 + 5 * w.toNatClampNeg + (nI 2).toNatClampNeg)) n.toNatClampNeg = p at hF
    have key := for_up (P := fun k => G 56 [(4, vI (nI (k + 1))), (3, vI (nI (lkB p k))), (0, vR 5 52), (1, vI w), (2, vI n)] [] (rL (rL hp 61 g) 60 p)) 24 (by
      refine run hG [56] 60 ?_
      refine And.intro (fun h1 => ?_) (fun h1 => absurd (by decide) h1)
      exact hQ _ _ ⟨by rw [hF], g, p, by rw [hF]⟩) (by
      intro k hk ih
      have hl := lkB_le p k
      have eb : lkB p (k + 1) = if p (k + 1) ≤ p (lkB p k) then lkB p k else k + 1 := rfl
      rw [eb] at ih
      generalize lkB p k = b at ih hl
      refine run hG [56] 60 ?_
      refine And.intro (fun h1 => absurd h1 (nI_ge (by omega) (by omega))) (fun h1 => ?_)
      refine And.intro (vp_in_nI (by omega) (by omega)) ?_
      refine And.intro (vp_in_nI (by omega) (by omega)) ?_
      refine And.intro (fun h5 => ?_) (fun h5 => ?_)
      · have h5 : lg_cmp ((rL (rL hp 61 g) 60 p).2 60 (nI (k + 1)).toNatClampNeg) ((rL (rL hp 61 g) 60 p).2 60 (nI b).toNatClampNeg) ≤ 0 := h5
        rw [lg_cmp_le, rL_eq, nI_clamp (by omega), nI_clamp (by omega)] at h5
        rw [if_pos h5] at ih
        refine cl_lv hG [(4, vI (nI (k + 1) + nI 1)), (3, vI (nI b)), (0, vR 5 52), (1, vI w), (2, vI n)] ⟨rfl, rfl, rfl, rfl, rfl, trivial⟩ ?_
        rw [nI_s]
        exact ih
      · have h5 : ¬ lg_cmp ((rL (rL hp 61 g) 60 p).2 60 (nI (k + 1)).toNatClampNeg) ((rL (rL hp 61 g) 60 p).2 60 (nI b).toNatClampNeg) ≤ 0 := h5
        rw [lg_cmp_le, rL_eq, nI_clamp (by omega), nI_clamp (by omega)] at h5
        rw [if_neg h5] at ih
        refine cl_lv hG [(4, vI (nI (k + 1) + nI 1)), (3, vI (nI (k + 1))), (0, vR 5 52), (1, vI w), (2, vI n)] ⟨rfl, rfl, rfl, rfl, rfl, trivial⟩ ?_
        rw [nI_s]
        exact ih) 0 (by omega)
    have k8 : G 56 [(4, vI (nI 1)), (3, vI (nI 0)), (0, vR 5 52), (1, vI w), (2, vI n)] [] (rL (rL hp 61 g) 60 p) := key
    exact cl_use hG k8 ⟨rfl, rfl, rfl, rfl, rfl, trivial⟩
  · have h4 : ¬ hp.1 53 (144 + 5 * w.toNatClampNeg) = nI 4 := h4
    rw [if_neg h4] at hF
    exact And.intro (vp_in_nI (by omega) (by omega)) (fin _ hF)
theorem sc_X5_likeliest {own : String} {F L idx : Nat} (h1 : Cond.methodLink own idx yX5_likeliest ∈ Gw) (hF : 5 ≤ F) (hL : 116 ≤ L) : SC own F L (idx, false, 3, sp_X5_likeliest) := SC_V spF_mono c_X5_likeliest okd_5 (fun as hp K h => by obtain ⟨x, hx, -⟩ := spF_e h; exact ⟨_, _, d_M_II_e hx⟩) h1 gw_1142 gw_1143 gw_75 gw_1144 (by decide +kernel) hF hL
def F_wipe (hp : HP) : Int32 × HP := (hp.1 52 11, uI hp 52 11 (nI 0))
def sp_X5_wipe : SP := spH d_M (fun _ _ => True) (fun _ hp => some (vI (F_wipe hp).1)) (fun _ hp => (F_wipe hp).2)
def E_X5_wipe : EN := []
set_option maxRecDepth 100000 in
set_option maxHeartbeats 4000000 in
theorem c_X5_wipe : Ctr M_X5_wipe sp_X5_wipe := by
  refine ctr_of (own := RX5) M_X5_wipe sp_X5_wipe (P := P_X5_wipe) (K := K_X5) (E := E_X5_wipe) (by decide) rfl pk_X5_wipe K_X5_ok (fun _ h => absurd h List.not_mem_nil) (fun as hp Q h => by obtain ⟨x, hx, -⟩ := spH_e h; rw [d_M_e hx]; exact Nat.le_of_ble_eq_true rfl) ?_
  intro Q G hQi hG as hp h
  obtain ⟨x, hx, hpre, hQ⟩ := spH_e h
  rw [d_M_e hx]
  clear h hx
  refine run hG [] 60 ?_
  exact hQ
theorem sc_X5_wipe {own : String} {F L idx : Nat} (h1 : Cond.methodLink own idx yX5_wipe ∈ Gw) (hF : 1 ≤ F) (hL : 21 ≤ L) : SC own F L (idx, false, 1, sp_X5_wipe) := SC_V spH_mono c_X5_wipe okd_5 (fun as hp K h => by obtain ⟨x, hx, -⟩ := spH_e h; exact ⟨_, _, d_M_e hx⟩) h1 gw_1150 gw_1151 gw_75 gw_1152 (by decide +kernel) hF hL
def F_image (hp : HP) : Int32 × HP := (nI 1, uI (rI hp 54 (hp.1 53)) 52 4 (nI 1))
def sp_X5_image : SP := spH d_M (fun _ _ => True) (fun _ hp => some (vI (F_image hp).1)) (fun _ hp => (F_image hp).2)
def E_X5_image : EN := [(164, true, 2, sp_X5_lay)]
set_option maxRecDepth 100000 in
set_option maxHeartbeats 4000000 in
theorem c_X5_image : Ctr M_X5_image sp_X5_image := by
  refine ctr_of (own := RX5) M_X5_image sp_X5_image (P := P_X5_image) (K := K_X5) (E := E_X5_image) (by decide) rfl pk_X5_image K_X5_ok (List.forall_mem_cons.mpr ⟨sc_X5_lay gw_1077 (by decide) (by decide), fun _ h => absurd h List.not_mem_nil⟩) (fun as hp Q h => by obtain ⟨x, hx, -⟩ := spH_e h; rw [d_M_e hx]; exact Nat.le_of_ble_eq_true rfl) ?_
  intro Q G hQi hG as hp h
  obtain ⟨x, hx, hpre, hQ⟩ := spH_e h
  rw [d_M_e hx]
  clear h hx
  refine run hG [] 60 ?_
  refine And.intro ⟨rfl, rfl, by decide⟩ ?_
  exact And.intro (Or.inr rfl) hQ
theorem sc_X5_image {own : String} {F L idx : Nat} (h1 : Cond.methodLink own idx yX5_image ∈ Gw) (hF : 2 ≤ F) (hL : 42 ≤ L) : SC own F L (idx, false, 1, sp_X5_image) := SC_V spH_mono c_X5_image okd_5 (fun as hp K h => by obtain ⟨x, hx, -⟩ := spH_e h; exact ⟨_, _, d_M_e hx⟩) h1 gw_1284 gw_1285 gw_75 gw_1286 (by decide +kernel) hF hL
def F_undo (hp : HP) : Int32 × HP := if hp.1 52 4 = 0 then noP hp 3 else (hp.1 54 6, rI hp 53 (hp.1 54))
def sp_X5_undo : SP := spH d_M (fun _ _ => True) (fun _ hp => some (vI (F_undo hp).1)) (fun _ hp => (F_undo hp).2)
def E_X5_undo : EN := [(79, false, 2, sp_X5_no), (164, true, 2, sp_X5_lay)]
set_option maxRecDepth 100000 in
set_option maxHeartbeats 4000000 in
theorem c_X5_undo : Ctr M_X5_undo sp_X5_undo := by
  refine ctr_of (own := RX5) M_X5_undo sp_X5_undo (P := P_X5_undo) (K := K_X5) (E := E_X5_undo) (by decide) rfl pk_X5_undo K_X5_ok (List.forall_mem_cons.mpr ⟨sc_X5_no gw_895 (by decide) (by decide), List.forall_mem_cons.mpr ⟨sc_X5_lay gw_1077 (by decide) (by decide), fun _ h => absurd h List.not_mem_nil⟩⟩) (fun as hp Q h => by obtain ⟨x, hx, -⟩ := spH_e h; rw [d_M_e hx]; exact Nat.le_of_ble_eq_true rfl) ?_
  intro Q G hQi hG as hp h
  obtain ⟨x, hx, hpre, hQ⟩ := spH_e h
  rw [d_M_e hx]
  clear h hx
  refine run hG [] 60 ?_
  refine And.intro (fun h1 => ?_) (fun h1 => ?_)
  · have h1 : ¬ hp.1 52 4 = 0 := h1
    refine And.intro ⟨rfl, rfl, by decide⟩ ?_
    refine And.intro (vp_in_nI (by omega) (by omega)) ?_
    refine q_F hQ ?_
    unfold F_undo
    rw [if_neg h1]
    refine Prod.ext ?_ rfl
    show hp.1 54 6 = (rI hp 53 (hp.1 54)).1 53 6
    rw [rI_eq]
  · have h1 : hp.1 52 4 = 0 := h1
    refine And.intro (vp_in_nI (by omega) (by omega)) ?_
    refine q_F hQ ?_
    unfold F_undo
    rw [if_pos h1]
    rfl
theorem sc_X5_undo {own : String} {F L idx : Nat} (h1 : Cond.methodLink own idx yX5_undo ∈ Gw) (hF : 2 ≤ F) (hL : 42 ≤ L) : SC own F L (idx, false, 1, sp_X5_undo) := SC_V spH_mono c_X5_undo okd_5 (fun as hp K h => by obtain ⟨x, hx, -⟩ := spH_e h; exact ⟨_, _, d_M_e hx⟩) h1 gw_1288 gw_1289 gw_75 gw_1290 (by decide +kernel) hF hL
def F_tear (hp : HP) : Int32 × HP := (if hp.1 52 4 = 0 then nI 0 else nI 1, uI hp 52 4 (nI 0))
def sp_X5_tear : SP := spH d_M (fun _ _ => True) (fun _ hp => some (vI (F_tear hp).1)) (fun _ hp => (F_tear hp).2)
def E_X5_tear : EN := []
set_option maxRecDepth 100000 in
set_option maxHeartbeats 4000000 in
theorem c_X5_tear : Ctr M_X5_tear sp_X5_tear := by
  refine ctr_of (own := RX5) M_X5_tear sp_X5_tear (P := P_X5_tear) (K := K_X5) (E := E_X5_tear) (by decide) rfl pk_X5_tear K_X5_ok (fun _ h => absurd h List.not_mem_nil) (fun as hp Q h => by obtain ⟨x, hx, -⟩ := spH_e h; rw [d_M_e hx]; exact Nat.le_of_ble_eq_true rfl) ?_
  intro Q G hQi hG as hp h
  obtain ⟨x, hx, hpre, hQ⟩ := spH_e h
  rw [d_M_e hx]
  clear h hx
  refine run hG [] 60 ?_
  refine And.intro (fun h1 => ?_) (fun h1 => ?_)
  · have h1 : hp.1 52 4 = 0 := h1
    refine And.intro (Or.inl rfl) ?_
    refine q_F hQ ?_
    unfold F_tear
    rw [if_pos h1]
  · have h1 : ¬ hp.1 52 4 = 0 := h1
    refine And.intro (Or.inl rfl) ?_
    refine q_F hQ ?_
    unfold F_tear
    rw [if_neg h1]
theorem sc_X5_tear {own : String} {F L idx : Nat} (h1 : Cond.methodLink own idx yX5_tear ∈ Gw) (hF : 1 ≤ F) (hL : 21 ≤ L) : SC own F L (idx, false, 1, sp_X5_tear) := SC_V spH_mono c_X5_tear okd_5 (fun as hp K h => by obtain ⟨x, hx, -⟩ := spH_e h; exact ⟨_, _, d_M_e hx⟩) h1 gw_1292 gw_1293 gw_75 gw_1294 (by decide +kernel) hF hL
end
section
def tapOK (hp : HP) : Prop := ∃ T, T ≤ 120 ∧ hp.1 52 11 = nI T
def fdR (t : Nat → Int32) (T : Nat) (b : Int32) (n : Nat) : Nat → (Nat → Int32)
  | 0 => t
  | k + 1 => upd (fdR t T b n k) (T + k) (b >>> (nI 8 * nI (n - 1 - k) &&& 31) &&& nI 255)
def F_feed (b n : Int32) (hp : HP) : Int32 × HP := if nI 1 ≤ n ∧ n ≤ nI 4 then (if hp.1 52 11 + n ≤ nI 120 then (hp.1 52 11 + n, rI (rI hp 62 (fdR (hp.1 62) (hp.1 52 11).toNatClampNeg b n.toNatClampNeg n.toNatClampNeg)) 52 (upd (hp.1 52) 11 (hp.1 52 11 + n))) else noP hp 1) else noP hp 0
theorem nI_m1 {m : Nat} (h : 0 < m) : nI m - nI 1 = nI (m - 1) := by
  have := nI_pred (m - 1)
  rw [show m - 1 + 1 = m by omega] at this
  exact this
theorem nI_neg1 : nI 0 - nI 1 = -1 := by decide
theorem add_m1 (x : Int32) : x + -1 = x - nI 1 := by rw [Int32.sub_eq_add_neg]; rfl
theorem upd_upd (f : Nat → Int32) (k : Nat) (a b : Int32) : upd (upd f k a) k b = upd f k b := by
  funext j
  rw [upd_at, upd_at, upd_at]
  split
  · rfl
  · rfl
theorem upd_self (f : Nat → Int32) (k : Nat) : upd f k (f k) = f := by
  funext j
  rw [upd_at]
  split
  · next h => rw [h]
  · rfl
theorem in_nI {x : Int32} {a b : Nat} (hb : b + 1 < 2 ^ 31) (ha : a < 2 ^ 31) (h : nI a ≤ x ∧ x ≤ nI b) : ∃ m, a ≤ m ∧ m ≤ b ∧ x = nI m := by
  obtain ⟨m, hm, rfl⟩ := vp_in_of (in_k h (Nat.lt_succ_self b) (by omega) ha) (by omega)
  refine ⟨m, ?_, by omega, rfl⟩
  have := h.1
  rw [Int32.le_iff_toInt_le, nI_toInt ha, nI_toInt (by omega)] at this
  omega
def sp_X5_feed : SP := spH d_M_II (fun _ hp => tapOK hp) (fun x hp => some (vI (F_feed x.1 x.2 hp).1)) (fun x hp => (F_feed x.1 x.2 hp).2)
def E_X5_feed : EN := [(55, true, 3, sp_X5_in), (79, false, 2, sp_X5_no)]
set_option maxRecDepth 100000 in
set_option maxHeartbeats 4000000 in
theorem c_X5_feed : Ctr M_X5_feed sp_X5_feed := by
  refine ctr_of (own := RX5) M_X5_feed sp_X5_feed (P := P_X5_feed) (K := K_X5) (E := E_X5_feed) (by decide) rfl pk_X5_feed K_X5_ok (List.forall_mem_cons.mpr ⟨sc_X5_in gw_883 (by decide) (by decide), List.forall_mem_cons.mpr ⟨sc_X5_no gw_895 (by decide) (by decide), fun _ h => absurd h List.not_mem_nil⟩⟩) (fun as hp Q h => by obtain ⟨x, hx, -⟩ := spH_e h; rw [d_M_II_e hx]; exact Nat.le_of_ble_eq_true rfl) ?_
  intro Q G hQi hG as hp h
  obtain ⟨x, hx, hpre, hQ⟩ := spH_e h
  rw [d_M_II_e hx]
  clear h hx
  obtain ⟨b, n⟩ := x
  try dsimp only at hpre hQ ⊢
  obtain ⟨T, hT, eT⟩ := hpre
  refine run hG [36] 60 ?_
  refine And.intro trivial ?_
  refine And.intro (fun h1 => ?_) (fun h1 => ?_)
  case refine_2 => exact And.intro (vp_in_nI (by omega) (by omega)) (q_F hQ (if_neg (and_f (bB_0.mp h1))))
  have h1 := and_t.mp (bB_1.mp h1)
  have hF : F_feed b n hp = _ := if_pos h1
  refine And.intro (fun h2 => ?_) (fun h2 => ?_)
  case refine_2 =>
    have h2 : ¬ hp.1 52 11 + n ≤ nI 120 := h2
    rw [if_neg h2] at hF
    exact And.intro (vp_in_nI (by omega) (by omega)) (q_F hQ hF)
  have h2 : hp.1 52 11 + n ≤ nI 120 := h2
  rw [if_pos h2] at hF
  obtain ⟨m, hm1, hm4, rfl⟩ := in_nI (by omega) (by omega) h1
  rw [eT, nI_add] at h2
  have h2 : T + m ≤ 120 := by
    rw [Int32.le_iff_toInt_le, nI_toInt (by omega), nI_toInt (by omega)] at h2
    omega
  rw [eT, nI_add, nI_clamp (by omega), nI_clamp (by omega)] at hF
  have key := for_up (P := fun k => G 36 [(3, vI (nI (m - k) - nI 1)), (0, vR 5 52), (1, vI b), (2, vI (nI m))] [] (rI (rI hp 62 (fdR (hp.1 62) T b m k)) 52 (upd (hp.1 52) 11 (nI (T + k))))) m (by
    rw [Nat.sub_self]
    refine run hG [36] 60 ?_
    refine And.intro (fun h3 => ?_) (fun h3 => absurd (by decide) h3)
    refine q_F hQ ?_
    rw [hF]
    refine Prod.ext ?_ rfl
    show nI (T + m) = (rI (rI hp 62 (fdR (hp.1 62) T b m m)) 52 (upd (hp.1 52) 11 (nI (T + m)))).1 52 11
    rw [rI_eq, upd_at, if_pos rfl]) (by
    intro k hk ih
    have ek : (rI (rI hp 62 (fdR (hp.1 62) T b m k)) 52 (upd (hp.1 52) 11 (nI (T + k)))).1 52 11 = nI (T + k) := by rw [rI_eq, upd_at, if_pos rfl]
    have e1 : nI (m - k) - nI 1 = nI (m - 1 - k) := by rw [nI_m1 (by omega), show m - k - 1 = m - 1 - k by omega]
    rw [e1]
    have u62 : ∀ g o j v, uI (rI (rI hp 62 g) 52 o) 62 j v = rI (rI hp 62 (upd g j v)) 52 o := fun g o j v => by rw [uI_r, rI_ne _ _ (by omega), rI_eq, rI_comm _ _ _ (by omega), rI_rI]
    refine run hG [36] 60 ?_
    refine And.intro (fun h3 => absurd h3 (nI_pos (by omega))) (fun h3 => ?_)
    refine And.intro (show vp_in ((rI (rI hp 62 (fdR (hp.1 62) T b m k)) 52 (upd (hp.1 52) 11 (nI (T + k)))).1 52 11) 120 by rw [ek]; exact vp_in_nI (by omega) (by omega)) ?_
    refine cl_lv hG [(3, vI (nI (m - 1 - k) + -1)), (0, vR 5 52), (1, vI b), (2, vI (nI m))] ⟨rfl, rfl, rfl, rfl, trivial⟩ ?_
    rw [show nI (m - 1 - k) + -1 = nI (m - (k + 1)) - nI 1 by rw [add_m1, show m - 1 - k = m - (k + 1) by omega]]
    show G 36 _ [] (uI (uI (rI (rI hp 62 (fdR (hp.1 62) T b m k)) 52 (upd (hp.1 52) 11 (nI (T + k)))) 62 ((rI (rI hp 62 (fdR (hp.1 62) T b m k)) 52 (upd (hp.1 52) 11 (nI (T + k)))).1 52 11).toNatClampNeg (b >>> (nI 8 * nI (m - 1 - k) &&& 31) &&& nI 255)) 52 11 ((uI (rI (rI hp 62 (fdR (hp.1 62) T b m k)) 52 (upd (hp.1 52) 11 (nI (T + k)))) 62 ((rI (rI hp 62 (fdR (hp.1 62) T b m k)) 52 (upd (hp.1 52) 11 (nI (T + k)))).1 52 11).toNatClampNeg (b >>> (nI 8 * nI (m - 1 - k) &&& 31) &&& nI 255)).1 52 11 + nI 1))
    rw [ek, nI_clamp (by omega), u62, uI_rI, rI_eq, upd_upd, upd_at, if_pos rfl, nI_s]
    exact ih) 0 (by omega)
  have k7 : G 36 [(3, vI (nI m - nI 1)), (0, vR 5 52), (1, vI b), (2, vI (nI m))] [] (rI (rI hp 62 (hp.1 62)) 52 (upd (hp.1 52) 11 (nI T))) := key
  rw [rI_self, rI_id (show hp.1 52 = upd (hp.1 52) 11 (nI T) by rw [← eT, upd_self])] at k7
  exact cl_use hG k7 ⟨rfl, rfl, rfl, rfl, trivial⟩
theorem sc_X5_feed {own : String} {F L idx : Nat} (h1 : Cond.methodLink own idx yX5_feed ∈ Gw) (hF : 2 ≤ F) (hL : 45 ≤ L) : SC own F L (idx, false, 3, sp_X5_feed) := SC_V spH_mono c_X5_feed okd_5 (fun as hp K h => by obtain ⟨x, hx, -⟩ := spH_e h; exact ⟨_, _, d_M_II_e hx⟩) h1 gw_1146 gw_1147 gw_75 gw_1148 (by decide +kernel) hF hL
def smV (f : Nat → Int32) (a n : Nat) : Int32 := fold (fun k s => s + f (a + k)) (nI 0) n
def sp_X5_sumOf : SP := spP d_M_II (fun x _ => ∃ a n, a + n ≤ 184 ∧ x.1 = nI a ∧ x.2 = nI n) (fun x hp => vI (smV (hp.1 53) x.1.toNatClampNeg x.2.toNatClampNeg))
def E_X5_sumOf : EN := []
set_option maxRecDepth 100000 in
set_option maxHeartbeats 4000000 in
theorem c_X5_sumOf : Ctr M_X5_sumOf sp_X5_sumOf := by
  refine ctr_of (own := RX5) M_X5_sumOf sp_X5_sumOf (P := P_X5_sumOf) (K := K_X5) (E := E_X5_sumOf) (by decide) rfl pk_X5_sumOf K_X5_ok (fun _ h => absurd h List.not_mem_nil) (fun as hp Q h => by obtain ⟨x, hx, -⟩ := spP_e h; rw [d_M_II_e hx]; exact Nat.le_of_ble_eq_true rfl) ?_
  intro Q G hQi hG as hp h
  obtain ⟨x, hx, hpre, hQ⟩ := spP_e h
  rw [d_M_II_e hx]
  clear h hx
  obtain ⟨a, n⟩ := x
  try dsimp only at hpre hQ ⊢
  obtain ⟨a, n, han, rfl, rfl⟩ := hpre
  rw [nI_clamp (by omega), nI_clamp (by omega)] at hQ
  have key := for_up (P := fun k => G 5 [(4, vI (nI k)), (3, vI (smV (hp.1 53) a k)), (0, vR 5 52), (1, vI (nI a)), (2, vI (nI n))] [] hp) n (by
    refine run hG [5] 60 ?_
    exact And.intro (fun h1 => hQ) (fun h1 => absurd (nI_le (Nat.le_refl _) (by omega)) h1)) (by
    intro k hk ih
    have e : nI a + nI k = nI (a + k) := nI_add _ _
    have e2 : smV (hp.1 53) a (k + 1) = smV (hp.1 53) a k + hp.1 53 (nI a + nI k).toNatClampNeg := by rw [e, nI_clamp (by omega)]; rfl
    rw [e2] at ih
    refine run hG [5] 60 ?_
    refine And.intro (fun h1 => absurd h1 (nI_ge hk (by omega))) (fun h1 => ?_)
    refine And.intro (show vp_in (nI a + nI k) 184 by rw [e]; exact vp_in_nI (by omega) (by omega)) ?_
    refine cl_lv hG [(4, vI (nI k + nI 1)), (3, _), (0, vR 5 52), (1, vI (nI a)), (2, vI (nI n))] ⟨rfl, rfl, rfl, rfl, rfl, trivial⟩ ?_
    rw [nI_s]
    exact ih) 0 (by omega)
  refine run hG [5] 60 ?_
  exact cl_use hG key ⟨rfl, rfl, rfl, rfl, rfl, trivial⟩
theorem sc_X5_sumOf {own : String} {F L idx : Nat} (h1 : Cond.methodLink own idx yX5_sumOf ∈ Gw) (hF : 1 ≤ F) (hL : 24 ≤ L) : SC own F L (idx, false, 3, sp_X5_sumOf) := SC_V spP_mono c_X5_sumOf okd_5 (fun as hp K h => by obtain ⟨x, hx, -⟩ := spP_e h; exact ⟨_, _, d_M_II_e hx⟩) h1 gw_1301 gw_67 gw_75 gw_1302 (by decide +kernel) hF hL
def F_count (k : Int32) (hp : HP) : Int32 × HP := if k = nI 0 then (hp.1 53 6, hp) else if k = nI 1 then (smV (hp.1 53) 94 25 + smV (hp.1 53) 119 25, hp) else if k = nI 2 then (smV (hp.1 53) 44 25, hp) else if k = nI 3 then (smV (hp.1 53) 69 25, hp) else if k = nI 4 then (hp.1 53 5, hp) else if k = nI 5 then (hp.1 52 11, hp) else if k = nI 6 then (hp.1 53 1, hp) else noP hp 0
def sp_X5_count : SP := spH d_M_I (fun _ _ => True) (fun x hp => some (vI (F_count x hp).1)) (fun x hp => (F_count x hp).2)
def E_X5_count : EN := [(327, false, 3, sp_X5_sumOf), (79, false, 2, sp_X5_no)]
set_option maxRecDepth 100000 in
set_option maxHeartbeats 4000000 in
theorem c_X5_count : Ctr M_X5_count sp_X5_count := by
  refine ctr_of (own := RX5) M_X5_count sp_X5_count (P := P_X5_count) (K := K_X5) (E := E_X5_count) (by decide) rfl pk_X5_count K_X5_ok (List.forall_mem_cons.mpr ⟨sc_X5_sumOf gw_1299 (by decide) (by decide), List.forall_mem_cons.mpr ⟨sc_X5_no gw_895 (by decide) (by decide), fun _ h => absurd h List.not_mem_nil⟩⟩) (fun as hp Q h => by obtain ⟨x, hx, -⟩ := spH_e h; rw [d_M_I_e hx]; exact Nat.le_of_ble_eq_true rfl) ?_
  intro Q G hQi hG as hp h
  obtain ⟨x, hx, hpre, hQ⟩ := spH_e h
  rw [d_M_I_e hx]
  clear h hx
  unfold F_count at hQ
  refine run hG [] 60 ?_
  refine And.intro (fun hz => ?_) (And.intro (fun hz => ?_) (And.intro (fun hz => ?_) (And.intro (fun hz => ?_) (And.intro (fun hz => ?_) (And.intro (fun hz => ?_) (And.intro (fun hz => ?_) (fun hz => ?_)))))))
  · have e : x = nI 0 := eq_toInt (by omega) hz
    rw [if_pos e] at hQ
    exact And.intro (vp_in_nI (by omega) (by omega)) hQ
  · have e : x = nI 1 := eq_toInt (by omega) hz
    rw [if_neg (by rw [e]; decide), if_pos e] at hQ
    exact And.intro ⟨94, 25, by omega, rfl, rfl⟩ (And.intro ⟨119, 25, by omega, rfl, rfl⟩ hQ)
  · have e : x = nI 2 := eq_toInt (by omega) hz
    rw [if_neg (by rw [e]; decide), if_neg (by rw [e]; decide), if_pos e] at hQ
    exact And.intro ⟨44, 25, by omega, rfl, rfl⟩ hQ
  · have e : x = nI 3 := eq_toInt (by omega) hz
    rw [if_neg (by rw [e]; decide), if_neg (by rw [e]; decide), if_neg (by rw [e]; decide), if_pos e] at hQ
    exact And.intro ⟨69, 25, by omega, rfl, rfl⟩ hQ
  · have e : x = nI 4 := eq_toInt (by omega) hz
    rw [if_neg (by rw [e]; decide), if_neg (by rw [e]; decide), if_neg (by rw [e]; decide), if_neg (by rw [e]; decide), if_pos e] at hQ
    exact And.intro (vp_in_nI (by omega) (by omega)) hQ
  · have e : x = nI 5 := eq_toInt (by omega) hz
    rw [if_neg (by rw [e]; decide), if_neg (by rw [e]; decide), if_neg (by rw [e]; decide), if_neg (by rw [e]; decide), if_neg (by rw [e]; decide), if_pos e] at hQ
    exact hQ
  · have e : x = nI 6 := eq_toInt (by omega) hz
    rw [if_neg (by rw [e]; decide), if_neg (by rw [e]; decide), if_neg (by rw [e]; decide), if_neg (by rw [e]; decide), if_neg (by rw [e]; decide), if_neg (by rw [e]; decide), if_pos e] at hQ
    exact And.intro (vp_in_nI (by omega) (by omega)) hQ
  · have ne : ∀ j : Nat, j < 7 → ¬ x = nI j := fun j hj => ne_toInt (by omega) (by omega)
    rw [if_neg (ne 0 (by omega)), if_neg (ne 1 (by omega)), if_neg (ne 2 (by omega)), if_neg (ne 3 (by omega)), if_neg (ne 4 (by omega)), if_neg (ne 5 (by omega)), if_neg (ne 6 (by omega))] at hQ
    exact And.intro (vp_in_nI (by omega) (by omega)) hQ
theorem sc_X5_count {own : String} {F L idx : Nat} (h1 : Cond.methodLink own idx yX5_count ∈ Gw) (hF : 2 ≤ F) (hL : 45 ≤ L) : SC own F L (idx, false, 2, sp_X5_count) := SC_V spH_mono c_X5_count okd_5 (fun as hp K h => by obtain ⟨x, hx, -⟩ := spH_e h; exact ⟨_, _, d_M_I_e hx⟩) h1 gw_1296 gw_1297 gw_75 gw_1298 (by decide +kernel) hF hL
def stV (r : Nat → Int32) (x : Int32) : Int32 := fold (fun k s => s + (if x = -1 ∨ x = nI k then r k else nI 0)) (nI 0) 7
def F_status (x : Int32) (hp : HP) : Int32 × HP := if (-1 : Int32) ≤ x ∧ x ≤ nI 6 then (stV (hp.1 57) x, hp) else noP hp 0
def sp_X5_status : SP := spH d_M_I (fun _ _ => True) (fun x hp => some (vI (F_status x hp).1)) (fun x hp => (F_status x hp).2)
def E_X5_status : EN := [(55, true, 3, sp_X5_in), (79, false, 2, sp_X5_no)]
set_option maxRecDepth 100000 in
set_option maxHeartbeats 4000000 in
theorem c_X5_status : Ctr M_X5_status sp_X5_status := by
  refine ctr_of (own := RX5) M_X5_status sp_X5_status (P := P_X5_status) (K := K_X5) (E := E_X5_status) (by decide) rfl pk_X5_status K_X5_ok (List.forall_mem_cons.mpr ⟨sc_X5_in gw_883 (by decide) (by decide), List.forall_mem_cons.mpr ⟨sc_X5_no gw_895 (by decide) (by decide), fun _ h => absurd h List.not_mem_nil⟩⟩) (fun as hp Q h => by obtain ⟨x, hx, -⟩ := spH_e h; rw [d_M_I_e hx]; exact Nat.le_of_ble_eq_true rfl) ?_
  intro Q G hQi hG as hp h
  obtain ⟨x, hx, hpre, hQ⟩ := spH_e h
  rw [d_M_I_e hx]
  clear h hx
  refine run hG [20] 60 ?_
  refine And.intro trivial ?_
  refine And.intro (fun h1 => ?_) (fun h1 => ?_)
  case refine_2 => exact And.intro (vp_in_nI (by omega) (by omega)) (q_F hQ (if_neg (and_f (bB_0.mp h1))))
  have h1 := and_t.mp (bB_1.mp h1)
  have hF : F_status x hp = _ := if_pos h1
  have key := for_up (P := fun k => G 20 [(3, vI (nI k)), (2, vI (fold (fun k s => s + (if x = -1 ∨ x = nI k then hp.1 57 k else nI 0)) (nI 0) k)), (0, vR 5 52), (1, vI x)] [] hp) 7 (by
    refine run hG [20] 60 ?_
    exact And.intro (fun h1 => q_F hQ hF) (fun h1 => absurd (nI_le (Nat.le_refl _) (by omega)) h1)) (by
    intro k hk ih
    have ih : G 20 [(3, vI (nI (k + 1))), (2, vI (fold (fun k s => s + (if x = -1 ∨ x = nI k then hp.1 57 k else nI 0)) (nI 0) k + (if x = -1 ∨ x = nI k then hp.1 57 k else nI 0))), (0, vR 5 52), (1, vI x)] [] hp := ih
    generalize fold (fun k s => s + (if x = -1 ∨ x = nI k then hp.1 57 k else nI 0)) (nI 0) k = s at ih
    have yes : (x = -1 ∨ x = nI k) → G 20 [(3, vI (nI k + nI 1)), (2, vI (s + hp.1 57 (nI k).toNatClampNeg)), (0, vR 5 52), (1, vI x)] [] hp := fun h => by
      rw [if_pos h] at ih
      rw [nI_s, nI_clamp (by omega)]
      exact ih
    refine run hG [20] 60 ?_
    refine And.intro (fun h1 => absurd h1 (nI_ge hk (by omega))) (fun h1 => ?_)
    refine And.intro (fun h2 => ?_) (fun h2 => ?_)
    · refine And.intro (vp_in_nI (by omega) (by omega)) ?_
      exact cl_use hG (yes (Or.inl h2)) ⟨rfl, rfl, rfl, rfl, trivial⟩
    · refine And.intro (fun h3 => ?_) (fun h3 => ?_)
      · rw [if_neg (fun h => h.elim h2 h3), ← nI_s] at ih
        exact cl_use hG ih ⟨rfl, rfl, rfl, rfl, trivial⟩
      · refine And.intro (vp_in_nI (by omega) (by omega)) ?_
        exact cl_use hG (yes (Or.inr h3)) ⟨rfl, rfl, rfl, rfl, trivial⟩) 0 (by omega)
  exact cl_use hG key ⟨rfl, rfl, rfl, rfl, trivial⟩
theorem sc_X5_status {own : String} {F L idx : Nat} (h1 : Cond.methodLink own idx yX5_status ∈ Gw) (hF : 2 ≤ F) (hL : 45 ≤ L) : SC own F L (idx, false, 2, sp_X5_status) := SC_V spH_mono c_X5_status okd_5 (fun as hp K h => by obtain ⟨x, hx, -⟩ := spH_e h; exact ⟨_, _, d_M_I_e hx⟩) h1 gw_1304 gw_1305 gw_75 gw_1306 (by decide +kernel) hF hL
end
section
/-! sheets -/
def filA (g o : Nat → Int64) (a k : Nat) : Nat → Int64 := fun j => if a ≤ j ∧ j < a + k then g j else o j
theorem filA_0 (g o : Nat → Int64) (a : Nat) : filA g o a 0 = o := by funext j; exact if_neg (by omega)
theorem filA_s (g o : Nat → Int64) (a k : Nat) : vp_updL (filA g o a k) (a + k) (g (a + k)) = filA g o a (k + 1) := by
  funext j
  rw [upL_at]
  unfold filA
  by_cases h2 : j = a + k
  · subst h2
    rw [if_pos rfl, if_pos (by omega)]
  · rw [if_neg h2]
    by_cases h3 : a ≤ j ∧ j < a + k
    · rw [if_pos h3, if_pos (by omega)]
    · rw [if_neg h3, if_neg (by omega)]
theorem sh_ix {s i : Nat} : nI 40 * nI s + nI i = nI (40 * s + i) := by rw [pk_mul, nI_add]
def btB (b : Int32) : Bool := decide (b = 0 ∨ b = nI 8 ∨ b = nI 16 ∨ b = nI 64)
def shH (s : Nat) (b n : Int32) (hp : HP) : HP := rL (rI (rI hp 63 (upd (hp.1 63) s b)) 64 (upd (hp.1 64) s (if b = 0 then nI 0 else n))) 65 (filA (fun _ => lN 0) (hp.2 65) (40 * s) 40)
def F_sheet (s b n : Int32) (hp : HP) : Int32 × HP := if inB s 4 = true ∧ btB b = true then (if 0 ≤ n then (if n ≤ nI 40 then (if b = 0 then nI 0 else n, shH s.toNatClampNeg b n hp) else noP hp 0) else noP hp 6) else noP hp 0
def sp_X5_sheet : SP := spH d_M_III (fun _ _ => True) (fun x hp => some (vI (F_sheet x.1 x.2.1 x.2.2 hp).1)) (fun x hp => (F_sheet x.1 x.2.1 x.2.2 hp).2)
def E_X5_sheet : EN := [(314, true, 1, sp_X5_isSheet), (79, false, 2, sp_X5_no)]
set_option maxRecDepth 100000 in
set_option maxHeartbeats 4000000 in
theorem c_X5_sheet : Ctr M_X5_sheet sp_X5_sheet := by
  refine ctr_of (own := RX5) M_X5_sheet sp_X5_sheet (P := P_X5_sheet) (K := K_X5) (E := E_X5_sheet) (by decide) rfl pk_X5_sheet K_X5_ok (List.forall_mem_cons.mpr ⟨sc_X5_isSheet gw_1255 (by decide) (by decide), List.forall_mem_cons.mpr ⟨sc_X5_no gw_895 (by decide) (by decide), fun _ h => absurd h List.not_mem_nil⟩⟩) (fun as hp Q h => by obtain ⟨x, hx, -⟩ := spH_e h; rw [d_M_III_e hx]; exact Nat.le_of_ble_eq_true rfl) ?_
  intro Q G hQi hG as hp h
  obtain ⟨x, hx, hpre, hQ⟩ := spH_e h
  rw [d_M_III_e hx]
  clear h hx
  obtain ⟨s, b, n⟩ := x
  try dsimp only at hpre hQ ⊢
  have no : ¬ (inB s 4 = true ∧ btB b = true) → Q (some (vI (noP hp 0).1)) (noP hp 0).2 := fun h => q_F hQ (if_neg h)
  refine run hG [35] 60 ?_
  refine And.intro trivial ?_
  refine And.intro (fun h1 => ?_) (fun h1 => ?_)
  case refine_1 =>
    have h1 : inB s 4 = false := bB_0.mp h1
    exact And.intro (vp_in_nI (by omega) (by omega)) (no (fun h => by rw [h1] at h; exact absurd h.1 (by decide)))
  have h1 : inB s 4 = true := bB_1.mp h1
  have hs := inB_t.mp h1
  obtain ⟨S, hS, rfl⟩ := vp_in_of hs (by omega)
  have on : btB b = true → G 35 [(0, vR 5 52), (1, vI (nI S)), (2, vI b), (3, vI n)] [] hp := by
    intro hb
    have hF : F_sheet (nI S) b n hp = _ := if_pos ⟨h1, hb⟩
    refine run hG [35, 83] 60 ?_
    refine And.intro (fun h2 => ?_) (fun h2 => ?_)
    case refine_2 =>
      rw [if_neg h2] at hF
      exact And.intro (vp_in_nI (by omega) (by omega)) (q_F hQ hF)
    rw [if_pos h2] at hF
    refine And.intro (fun h3 => ?_) (fun h3 => ?_)
    case refine_2 =>
      rw [if_neg h3] at hF
      exact And.intro (vp_in_nI (by omega) (by omega)) (q_F hQ hF)
    rw [if_pos h3] at hF
    refine And.intro hs ?_
    have zer : ∀ v, v = (if b = 0 then nI 0 else n) → G 83 [(4, vI (nI 0)), (0, vR 5 52), (1, vI (nI S)), (2, vI b), (3, vI n)] [] (uI (uI hp 63 (nI S).toNatClampNeg b) 64 (nI S).toNatClampNeg v) := by
      intro v hv
      rw [nI_clamp (by omega)] at hF
      unfold shH at hF
      rw [← hv] at hF
      have eH : uI (uI hp 63 (nI S).toNatClampNeg b) 64 (nI S).toNatClampNeg v = rI (rI hp 63 (upd (hp.1 63) S b)) 64 (upd (hp.1 64) S v) := by
        rw [nI_clamp (by omega), uI_r, uI_r, rI_ne _ _ (by omega)]
      rw [eH]
      generalize hH : rI (rI hp 63 (upd (hp.1 63) S b)) 64 (upd (hp.1 64) S v) = H at hF
      have e64 : H.1 64 S = v := by rw [← hH, rI_eq, upd_at, if_pos rfl]
      have e65 : H.2 65 = hp.2 65 := by rw [← hH]; rfl
      have key := for_up (P := fun k => G 83 [(4, vI (nI k)), (0, vR 5 52), (1, vI (nI S)), (2, vI b), (3, vI n)] [] (rL H 65 (filA (fun _ => lN 0) (hp.2 65) (40 * S) k))) 40 (by
        refine run hG [83] 60 ?_
        refine And.intro (fun h4 => ?_) (fun h4 => absurd (nI_le (Nat.le_refl _) (by omega)) h4)
        refine And.intro hs ?_
        refine q_F hQ ?_
        rw [hF]
        refine Prod.ext ?_ rfl
        show v = H.1 64 (nI S).toNatClampNeg
        rw [nI_clamp (by omega), e64]) (by
        intro k hk ih
        rw [← filA_s] at ih
        refine run hG [83] 60 ?_
        refine And.intro (fun h4 => absurd h4 (nI_ge hk (by omega))) (fun h4 => ?_)
        refine And.intro (show vp_in (nI 40 * nI S + nI k) 160 by rw [sh_ix]; exact vp_in_nI (by omega) (by omega)) ?_
        refine cl_lv hG [(4, vI (nI k + nI 1)), (0, vR 5 52), (1, vI (nI S)), (2, vI b), (3, vI n)] ⟨rfl, rfl, rfl, rfl, rfl, trivial⟩ ?_
        rw [nI_s]
        show G 83 _ [] (uL (rL H 65 (filA (fun _ => lN 0) (hp.2 65) (40 * S) k)) 65 (nI 40 * nI S + nI k).toNatClampNeg (lN 0))
        rw [sh_ix, nI_clamp (by omega), uL_rL]
        exact ih) 0 (by omega)
      rw [filA_0, rL_id e65] at key
      exact key
    refine And.intro (fun h4 => ?_) (fun h4 => ?_)
    · refine And.intro hs ?_
      exact cl_use hG (zer _ (if_neg h4).symm) ⟨rfl, rfl, rfl, rfl, rfl, trivial⟩
    · refine And.intro hs ?_
      exact cl_use hG (zer _ (if_pos h4).symm) ⟨rfl, rfl, rfl, rfl, rfl, trivial⟩
  have on2 : (b = 0 ∨ b = nI 8 ∨ b = nI 16 ∨ b = nI 64) → G 35 (lva 0 [vR 5 52, vI (nI S), vI b, vI n]) [] hp := fun h => on (decide_eq_true h)
  refine And.intro (fun h2 => on2 (Or.inl h2)) (fun h2 => ?_)
  refine And.intro (fun h3 => on2 (Or.inr (Or.inl h3))) (fun h3 => ?_)
  refine And.intro (fun h4 => on2 (Or.inr (Or.inr (Or.inl h4)))) (fun h4 => ?_)
  refine And.intro (fun h5 => on2 (Or.inr (Or.inr (Or.inr h5)))) (fun h5 => ?_)
  refine And.intro (vp_in_nI (by omega) (by omega)) (no (fun h => ?_))
  exact (of_decide_eq_true h.2).elim h2 (fun h => h.elim h3 (fun h => h.elim h4 h5))
theorem sc_X5_sheet {own : String} {F L idx : Nat} (h1 : Cond.methodLink own idx yX5_sheet ∈ Gw) (hF : 3 ≤ F) (hL : 66 ≤ L) : SC own F L (idx, false, 4, sp_X5_sheet) := SC_V spH_mono c_X5_sheet okd_5 (fun as hp K h => by obtain ⟨x, hx, -⟩ := spH_e h; exact ⟨_, _, d_M_III_e hx⟩) h1 gw_1252 gw_1253 gw_75 gw_1254 (by decide +kernel) hF hL
end
section
def ctV (b : Int32) (v : Int64) : Int64 := if b = nI 8 then v.toInt32.toInt8.toInt32.toInt64 else if b = nI 16 then v.toInt32.toInt16.toInt32.toInt64 else v
def sp_X5_writes : SP := spH d_M_IIJ (fun x _ => vp_in x.1 4 ∧ vp_in x.2.1 40) (fun _ _ => none) (fun x hp => uL hp 65 (40 * x.1.toNatClampNeg + x.2.1.toNatClampNeg) (ctV (hp.1 63 x.1.toNatClampNeg) x.2.2))
def E_X5_writes : EN := []
set_option maxRecDepth 100000 in
set_option maxHeartbeats 4000000 in
theorem c_X5_writes : Ctr M_X5_writes sp_X5_writes := by
  refine ctr_of (own := RX5) M_X5_writes sp_X5_writes (P := P_X5_writes) (K := K_X5) (E := E_X5_writes) (by decide) rfl pk_X5_writes K_X5_ok (fun _ h => absurd h List.not_mem_nil) (fun as hp Q h => by obtain ⟨x, hx, -⟩ := spH_e h; rw [d_M_IIJ_e hx]; exact Nat.le_of_ble_eq_true rfl) ?_
  intro Q G hQi hG as hp h
  obtain ⟨x, hx, hpre, hQ⟩ := spH_e h
  rw [d_M_IIJ_e hx]
  clear h hx
  obtain ⟨s, i, v⟩ := x
  try dsimp only at hpre hQ ⊢
  obtain ⟨hs, hi⟩ := hpre
  obtain ⟨S, hS, rfl⟩ := vp_in_of hs (by omega)
  obtain ⟨I, hI, rfl⟩ := vp_in_of hi (by omega)
  have eS : (nI S).toNatClampNeg = S := nI_clamp (by omega)
  rw [eS, nI_clamp (show I < 2 ^ 31 by omega)] at hQ
  have e : nI 40 * nI S + nI I = nI (40 * S + I) := sh_ix
  have hin : vp_in (nI 40 * nI S + nI I) 160 := by rw [e]; exact vp_in_nI (by omega) (by omega)
  have fin : ∀ y, y = ctV (hp.1 63 S) v → Q none (uL hp 65 (nI 40 * nI S + nI I).toNatClampNeg y) := fun y hy => by
    rw [e, nI_clamp (by omega), hy]
    exact hQ
  refine run hG [] 60 ?_
  refine And.intro hs ?_
  refine And.intro (fun h1 => ?_) (fun h1 => ?_)
  · have h1 : ¬ hp.1 63 (nI S).toNatClampNeg = nI 8 := h1
    rw [eS] at h1
    refine And.intro hs ?_
    refine And.intro (fun h2 => ?_) (fun h2 => ?_)
    · have h2 : ¬ hp.1 63 (nI S).toNatClampNeg = nI 16 := h2
      rw [eS] at h2
      refine And.intro hin ?_
      exact fin _ (by unfold ctV; rw [if_neg h1, if_neg h2])
    · have h2 : hp.1 63 (nI S).toNatClampNeg = nI 16 := h2
      rw [eS] at h2
      refine And.intro hin ?_
      exact fin _ (by unfold ctV; rw [if_neg h1, if_pos h2])
  · have h1 : hp.1 63 (nI S).toNatClampNeg = nI 8 := h1
    rw [eS] at h1
    refine And.intro hin ?_
    exact fin _ (by unfold ctV; rw [if_pos h1])
theorem sc_X5_writes {own : String} {F L idx : Nat} (h1 : Cond.methodLink own idx yX5_writes ∈ Gw) (hF : 1 ≤ F) (hL : 24 ≤ L) : SC own F L (idx, false, 4, sp_X5_writes) := SC_V spH_mono c_X5_writes okd_5 (fun as hp K h => by obtain ⟨x, hx, -⟩ := spH_e h; exact ⟨_, _, d_M_IIJ_e hx⟩) h1 gw_1264 gw_66 gw_75 gw_1265 (by decide +kernel) hF hL
/-- how long the sheets are -/
def lnOK (hp : HP) : Prop := ∀ s, s < 4 → ∃ l, l ≤ 40 ∧ hp.1 64 s = nI l
def lnN (hp : HP) (s : Nat) : Nat := (hp.1 64 s).toNatClampNeg
theorem lnOK.at {hp : HP} (h : lnOK hp) {s : Nat} (hs : s < 4) : lnN hp s ≤ 40 ∧ hp.1 64 s = nI (lnN hp s) := by
  obtain ⟨l, hl, e⟩ := h s hs
  unfold lnN
  rw [e, nI_clamp (by omega)]
  exact ⟨hl, rfl⟩
theorem len_b {v : Int32} {n : Nat} (hn : n ≤ 40) : (decide (nI 0 ≤ v) && decide (v ≤ nI n - nI 1)) = inB v n := by
  cases n with
  | zero =>
    have h1 : inB v 0 = false := inB_f.mpr (fun h => absurd (ix_lt h) (by omega))
    rw [h1, nI_neg1]
    cases h2 : (decide (nI 0 ≤ v) && decide (v ≤ -1)) with
    | false => rfl
    | true =>
      have h3 := and_t.mp h2
      have a := Int32.le_iff_toInt_le.mp h3.1
      have b := Int32.le_iff_toInt_le.mp h3.2
      have e0 : (nI 0).toInt = 0 := rfl
      have e1 : (-1 : Int32).toInt = -1 := rfl
      omega
  | succ n =>
    rw [nI_m1 (show 0 < n + 1 by omega), Nat.add_sub_cancel]
    exact in_b (by omega)
def F_write (s i : Int32) (v : Int64) (hp : HP) : Int64 × HP := if inB s 4 = true then (if hp.1 63 s.toNatClampNeg = 0 then noL hp 5 else (if inB i (lnN hp s.toNatClampNeg) = true then (hp.2 65 (40 * s.toNatClampNeg + i.toNatClampNeg), uL hp 65 (40 * s.toNatClampNeg + i.toNatClampNeg) (ctV (hp.1 63 s.toNatClampNeg) v)) else noL hp 0)) else noL hp 0
theorem q_FL {Q : QP} {p : Int64 × HP} {y : Int64} {hq : HP} (h : Q (some (vL p.1)) p.2) (e : p = (y, hq)) : Q (some (vL y)) hq := by
  subst e
  exact h
def sp_X5_write : SP := spH d_M_IIJ (fun _ hp => lnOK hp) (fun x hp => some (vL (F_write x.1 x.2.1 x.2.2 hp).1)) (fun x hp => (F_write x.1 x.2.1 x.2.2 hp).2)
def E_X5_write : EN := [(314, true, 1, sp_X5_isSheet), (79, false, 2, sp_X5_no), (55, true, 3, sp_X5_in), (317, false, 4, sp_X5_writes)]
set_option maxRecDepth 100000 in
set_option maxHeartbeats 4000000 in
theorem c_X5_write : Ctr M_X5_write sp_X5_write := by
  refine ctr_of (own := RX5) M_X5_write sp_X5_write (P := P_X5_write) (K := K_X5) (E := E_X5_write) (by decide) rfl pk_X5_write K_X5_ok (List.forall_mem_cons.mpr ⟨sc_X5_isSheet gw_1255 (by decide) (by decide), List.forall_mem_cons.mpr ⟨sc_X5_no gw_895 (by decide) (by decide), List.forall_mem_cons.mpr ⟨sc_X5_in gw_883 (by decide) (by decide), List.forall_mem_cons.mpr ⟨sc_X5_writes gw_1262 (by decide) (by decide), fun _ h => absurd h List.not_mem_nil⟩⟩⟩⟩) (fun as hp Q h => by obtain ⟨x, hx, -⟩ := spH_e h; rw [d_M_IIJ_e hx]; exact Nat.le_of_ble_eq_true rfl) ?_
  intro Q G hQi hG as hp h
  obtain ⟨x, hx, hpre, hQ⟩ := spH_e h
  rw [d_M_IIJ_e hx]
  clear h hx
  obtain ⟨s, i, v⟩ := x
  try dsimp only at hpre hQ ⊢
  refine run hG [] 60 ?_
  refine And.intro trivial ?_
  refine And.intro (fun h1 => ?_) (fun h1 => ?_)
  case refine_2 =>
    have h1 : inB s 4 = false := bB_0.mp h1
    exact And.intro (vp_in_nI (by omega) (by omega)) (q_FL hQ (if_neg (by rw [h1]; decide)))
  have h1 : inB s 4 = true := bB_1.mp h1
  have hF : F_write s i v hp = _ := if_pos h1
  have hs := inB_t.mp h1
  have hl := hpre.at (ix_lt hs)
  refine And.intro hs ?_
  refine And.intro (fun h2 => ?_) (fun h2 => ?_)
  case refine_2 =>
    have h2 : hp.1 63 s.toNatClampNeg = 0 := h2
    rw [if_pos h2] at hF
    exact And.intro (vp_in_nI (by omega) (by omega)) (q_FL hQ hF)
  have h2 : ¬ hp.1 63 s.toNatClampNeg = 0 := h2
  rw [if_neg h2] at hF
  refine And.intro hs ?_
  refine And.intro trivial ?_
  have eb : (decide (nI 0 ≤ i) && decide (i ≤ hp.1 64 s.toNatClampNeg - nI 1)) = inB i (lnN hp s.toNatClampNeg) := by
    rw [hl.2]
    exact len_b hl.1
  refine And.intro (fun h3 => ?_) (fun h3 => ?_)
  case refine_2 =>
    have h3 : (decide (nI 0 ≤ i) && decide (i ≤ hp.1 64 s.toNatClampNeg - nI 1)) = false := bB_0.mp h3
    rw [eb] at h3
    rw [if_neg (by rw [h3]; decide)] at hF
    exact And.intro (vp_in_nI (by omega) (by omega)) (q_FL hQ hF)
  have h3 : (decide (nI 0 ≤ i) && decide (i ≤ hp.1 64 s.toNatClampNeg - nI 1)) = true := bB_1.mp h3
  rw [eb] at h3
  rw [if_pos h3] at hF
  have hi := in_mono (inB_t.mp h3) hl.1
  have ei : nI 40 * s + i = nI (40 * s.toNatClampNeg + i.toNatClampNeg) := by
    have := ix_nI hs (by omega)
    have h := ix_nI hi (by omega)
    rw [← sh_ix, ← this, ← h]
  have hsx := ix_lt hs
  have hix := ix_lt hi
  refine And.intro (show vp_in (nI 40 * s + i) 160 by rw [ei]; exact vp_in_nI (by omega) (by omega)) ?_
  refine And.intro ⟨hs, hi⟩ ?_
  refine q_FL hQ ?_
  rw [hF]
  refine Prod.ext ?_ rfl
  show hp.2 65 (40 * s.toNatClampNeg + i.toNatClampNeg) = hp.2 65 (nI 40 * s + i).toNatClampNeg
  rw [ei, nI_clamp (by omega)]
theorem sc_X5_write {own : String} {F L idx : Nat} (h1 : Cond.methodLink own idx yX5_write ∈ Gw) (hF : 3 ≤ F) (hL : 68 ≤ L) : SC own F L (idx, false, 4, sp_X5_write) := SC_V spH_mono c_X5_write okd_5 (fun as hp K h => by obtain ⟨x, hx, -⟩ := spH_e h; exact ⟨_, _, d_M_IIJ_e hx⟩) h1 gw_1259 gw_1260 gw_75 gw_1261 (by decide +kernel) hF hL
/-- heights laid from a sheet -/
def lyI (c : Nat → Int64) (s k : Nat) : Bool := decide (lN 0 ≤ c (40 * s + k)) && decide (c (40 * s + k) ≤ 9)
def lyF (f : Nat → Int32) (c : Nat → Int64) (s : Nat) : Nat → Int32 × (Nat → Int32)
  | 0 => (nI 0, f)
  | k + 1 => if lyI c s k = true then ((lyF f c s k).1 + nI 1, upd (lyF f c s k).2 (19 + k) (c (40 * s + k)).toInt32) else lyF f c s k
def lyN (l : Nat) : Nat := if l ≤ 25 then l else 25
def F_lays (s : Int32) (hp : HP) : Int32 × HP := if inB s 4 = true then (if hp.1 63 s.toNatClampNeg = 0 then noP hp 5 else ((lyF (hp.1 53) (hp.2 65) s.toNatClampNeg (lyN (lnN hp s.toNatClampNeg))).1, rI hp 53 (lyF (hp.1 53) (hp.2 65) s.toNatClampNeg (lyN (lnN hp s.toNatClampNeg))).2)) else noP hp 0
def sp_X5_lays : SP := spH d_M_I (fun _ hp => lnOK hp) (fun x hp => some (vI (F_lays x hp).1)) (fun x hp => (F_lays x hp).2)
def E_X5_lays : EN := [(314, true, 1, sp_X5_isSheet), (79, false, 2, sp_X5_no)]
set_option maxRecDepth 100000 in
set_option maxHeartbeats 4000000 in
theorem c_X5_lays : Ctr M_X5_lays sp_X5_lays := by
  refine ctr_of (own := RX5) M_X5_lays sp_X5_lays (P := P_X5_lays) (K := K_X5) (E := E_X5_lays) (by decide) rfl pk_X5_lays K_X5_ok (List.forall_mem_cons.mpr ⟨sc_X5_isSheet gw_1255 (by decide) (by decide), List.forall_mem_cons.mpr ⟨sc_X5_no gw_895 (by decide) (by decide), fun _ h => absurd h List.not_mem_nil⟩⟩) (fun as hp Q h => by obtain ⟨x, hx, -⟩ := spH_e h; rw [d_M_I_e hx]; exact Nat.le_of_ble_eq_true rfl) ?_
  intro Q G hQi hG as hp h
  obtain ⟨x, hx, hpre, hQ⟩ := spH_e h
  rw [d_M_I_e hx]
  clear h hx
  refine run hG [32] 60 ?_
  refine And.intro trivial ?_
  refine And.intro (fun h1 => ?_) (fun h1 => ?_)
  case refine_2 =>
    have h1 : inB x 4 = false := bB_0.mp h1
    exact And.intro (vp_in_nI (by omega) (by omega)) (q_F hQ (if_neg (by rw [h1]; decide)))
  have h1 : inB x 4 = true := bB_1.mp h1
  have hF : F_lays x hp = _ := if_pos h1
  have hs := inB_t.mp h1
  have hl := hpre.at (ix_lt hs)
  refine And.intro hs ?_
  refine And.intro (fun h2 => ?_) (fun h2 => ?_)
  case refine_2 =>
    have h2 : hp.1 63 x.toNatClampNeg = 0 := h2
    rw [if_pos h2] at hF
    exact And.intro (vp_in_nI (by omega) (by omega)) (q_F hQ hF)
  have h2 : ¬ hp.1 63 x.toNatClampNeg = 0 := h2
  rw [if_neg h2] at hF
  obtain ⟨S, hS, rfl⟩ := vp_in_of hs (by omega)
  have eS : (nI S).toNatClampNeg = S := nI_clamp (by omega)
  rw [eS] at hF hl
  generalize hC : hp.2 65 = C at hF
  generalize lnN hp S = l at hF hl
  have hN : lyN l ≤ l ∧ lyN l ≤ 25 ∧ (lyN l = l ∨ lyN l = 25) := by unfold lyN; split <;> omega
  generalize lyN l = N at hF hN
  have e64 : ∀ g, (rI hp 53 g).1 64 (nI S).toNatClampNeg = nI l := fun g => by rw [rI_ne _ _ (by omega), eS, hl.2]
  have key := for_up (P := fun k => G 32 [(3, vI (nI k)), (2, vI (lyF (hp.1 53) C S k).1), (0, vR 5 52), (1, vI (nI S))] [] (rI hp 53 (lyF (hp.1 53) C S k).2)) N (by
    refine run hG [32] 60 ?_
    refine And.intro hs ?_
    refine And.intro (fun h3 => q_F hQ hF) (fun h3 => ?_)
    have h3 : ¬ (rI hp 53 (lyF (hp.1 53) C S N).2).1 64 (nI S).toNatClampNeg ≤ nI N := h3
    rw [e64] at h3
    refine And.intro (fun h4 => q_F hQ hF) (fun h4 => ?_)
    rcases hN.2.2 with h5 | h5
    · exact absurd (nI_le (by omega) (by omega)) h3
    · exact absurd (nI_le (by omega) (by omega)) h4) (by
    intro k hk ih
    have eF : lyF (hp.1 53) C S (k + 1) = if lyI C S k = true then ((lyF (hp.1 53) C S k).1 + nI 1, upd (lyF (hp.1 53) C S k).2 (19 + k) (C (40 * S + k)).toInt32) else lyF (hp.1 53) C S k := rfl
    rw [eF] at ih
    generalize lyF (hp.1 53) C S k = p at ih
    have e40 : nI 40 * nI S + nI k = nI (40 * S + k) := sh_ix
    have eC : (rI hp 53 p.2).2 65 (nI 40 * nI S + nI k).toNatClampNeg = C (40 * S + k) := by rw [e40, nI_clamp (by omega), ← hC]; rfl
    have e19 : nI 19 + nI k = nI (19 + k) := nI_add _ _
    have skip : lyI C S k = false → G 32 [(3, vI (nI k + nI 1)), (2, vI p.1), (0, vR 5 52), (1, vI (nI S))] [] (rI hp 53 p.2) := fun h => by
      rw [h, if_neg (by decide)] at ih
      rw [nI_s]
      exact ih
    refine run hG [32] 60 ?_
    refine And.intro hs ?_
    refine And.intro (fun h3 => ?_) (fun h3 => ?_)
    · have h3 : (rI hp 53 p.2).1 64 (nI S).toNatClampNeg ≤ nI k := h3
      rw [e64] at h3
      exact absurd h3 (nI_ge (by omega) (by omega))
    refine And.intro (fun h4 => absurd h4 (nI_ge (by omega) (by omega))) (fun h4 => ?_)
    refine And.intro (show vp_in (nI 40 * nI S + nI k) 160 by rw [e40]; exact vp_in_nI (by omega) (by omega)) ?_
    refine And.intro (fun h5 => ?_) (fun h5 => ?_)
    · have h5 : lg_cmp ((rI hp 53 p.2).2 65 (nI 40 * nI S + nI k).toNatClampNeg) (lN 0) < 0 := h5
      rw [lg_cmp_lt, eC] at h5
      refine cl_use hG (skip ?_) ⟨rfl, rfl, rfl, rfl, trivial⟩
      unfold lyI
      rw [decide_eq_false (fun h => Int64.not_lt.mpr h h5)]
      rfl
    · have h5 : ¬ lg_cmp ((rI hp 53 p.2).2 65 (nI 40 * nI S + nI k).toNatClampNeg) (lN 0) < 0 := h5
      rw [lg_cmp_lt, eC] at h5
      refine And.intro (fun h6 => ?_) (fun h6 => ?_)
      · have h6 : 0 < lg_cmp ((rI hp 53 p.2).2 65 (nI 40 * nI S + nI k).toNatClampNeg) 9 := h6
        rw [lg_cmp_gt, eC] at h6
        refine cl_use hG (skip ?_) ⟨rfl, rfl, rfl, rfl, trivial⟩
        unfold lyI
        rw [decide_eq_false (p := C (40 * S + k) ≤ 9) (fun h => Int64.not_lt.mpr h h6), Bool.and_false]
      · have h6 : ¬ 0 < lg_cmp ((rI hp 53 p.2).2 65 (nI 40 * nI S + nI k).toNatClampNeg) 9 := h6
        rw [lg_cmp_gt, eC] at h6
        refine And.intro (show vp_in (nI 19 + nI k) 184 by rw [e19]; exact vp_in_nI (by omega) (by omega)) ?_
        rw [if_pos (show lyI C S k = true by unfold lyI; rw [decide_eq_true (Int64.not_lt.mp h5), decide_eq_true (Int64.not_lt.mp h6)]; rfl)] at ih
        refine cl_lv hG [(3, vI (nI k + nI 1)), (2, vI (p.1 + nI 1)), (0, vR 5 52), (1, vI (nI S))] ⟨rfl, rfl, rfl, rfl, trivial⟩ ?_
        rw [nI_s]
        show G 32 _ [] (uI (rI hp 53 p.2) 53 (nI 19 + nI k).toNatClampNeg ((rI hp 53 p.2).2 65 (nI 40 * nI S + nI k).toNatClampNeg).toInt32)
        rw [eC, e19, nI_clamp (by omega), uI_rI]
        exact ih) 0 (by omega)
  have k7 : G 32 [(3, vI (nI 0)), (2, vI (nI 0)), (0, vR 5 52), (1, vI (nI S))] [] (rI hp 53 (hp.1 53)) := key
  rw [rI_self] at k7
  exact cl_use hG k7 ⟨rfl, rfl, rfl, rfl, trivial⟩
theorem sc_X5_lays {own : String} {F L idx : Nat} (h1 : Cond.methodLink own idx yX5_lays ∈ Gw) (hF : 3 ≤ F) (hL : 67 ≤ L) : SC own F L (idx, false, 2, sp_X5_lays) := SC_V spH_mono c_X5_lays okd_5 (fun as hp K h => by obtain ⟨x, hx, -⟩ := spH_e h; exact ⟨_, _, d_M_I_e hx⟩) h1 gw_1271 gw_1272 gw_75 gw_1273 (by decide +kernel) hF hL
end
section
def cpR (c : Nat → Int64) (a b n : Nat) : Nat → Int64 := filA (fun j => c (a + (j - b))) c b n
def cpC (s u t v n : Int32) (hp : HP) : Prop := 0 ≤ n ∧ 0 ≤ u ∧ 0 ≤ v ∧ u ≤ hp.1 64 s.toNatClampNeg - n ∧ v ≤ hp.1 64 t.toNatClampNeg - n
def F_copy (s u t v n : Int32) (hp : HP) : Int32 × HP := if inB s 4 = true ∧ inB t 4 = true then (if hp.1 63 s.toNatClampNeg = 0 ∨ hp.1 63 t.toNatClampNeg = 0 then noP hp 5 else (if hp.1 63 s.toNatClampNeg = hp.1 63 t.toNatClampNeg then (if 0 ≤ n ∧ 0 ≤ u ∧ 0 ≤ v ∧ u ≤ hp.1 64 s.toNatClampNeg - n ∧ v ≤ hp.1 64 t.toNatClampNeg - n then (n, rL hp 65 (cpR (hp.2 65) (40 * s.toNatClampNeg + u.toNatClampNeg) (40 * t.toNatClampNeg + v.toNatClampNeg) n.toNatClampNeg)) else noP hp 0) else noP hp 2)) else noP hp 0
theorem run_in {u n : Int32} {l : Nat} (hl : l ≤ 40) (hu : 0 ≤ u) (hn : 0 ≤ n) (h : u ≤ nI l - n) : ∃ a b, a + b ≤ l ∧ u = nI a ∧ n = nI b := by
  have h1 := Int32.le_iff_toInt_le.mp hu
  have h2 := Int32.le_iff_toInt_le.mp hn
  have h3 := Int32.le_iff_toInt_le.mp h
  have e0 : (0 : Int32).toInt = 0 := rfl
  have e1 : (nI l - n).toInt = (l : Int) - n.toInt := by
    rw [Int32.toInt_sub, nI_toInt (by omega)]
    have h4 := n.toInt_lt
    rw [Int.bmod_eq_of_le (by omega) (by omega)]
  rw [e1] at h3
  have a : vp_in u 41 := vp_in_iff.mpr (by omega)
  have b : vp_in n 41 := vp_in_iff.mpr (by omega)
  obtain ⟨i, hi, rfl⟩ := vp_in_of a (by omega)
  obtain ⟨j, hj, rfl⟩ := vp_in_of b (by omega)
  rw [nI_toInt (by omega), nI_toInt (by omega)] at h3
  exact ⟨i, j, by omega, rfl, rfl⟩
def sp_X5_copy : SP := spF d_M_IIIII (fun _ hp => lnOK hp) (fun x hp v hq => v = some (vI (F_copy x.1 x.2.1 x.2.2.1 x.2.2.2.1 x.2.2.2.2 hp).1) ∧ ∃ g, hq = rL (F_copy x.1 x.2.1 x.2.2.1 x.2.2.2.1 x.2.2.2.2 hp).2 66 g)
def E_X5_copy : EN := [(314, true, 1, sp_X5_isSheet), (79, false, 2, sp_X5_no)]
set_option maxRecDepth 100000 in
set_option maxHeartbeats 4000000 in
theorem c_X5_copy : Ctr M_X5_copy sp_X5_copy := by
  refine ctr_of (own := RX5) M_X5_copy sp_X5_copy (P := P_X5_copy) (K := K_X5) (E := E_X5_copy) (by decide) rfl pk_X5_copy K_X5_ok (List.forall_mem_cons.mpr ⟨sc_X5_isSheet gw_1255 (by decide) (by decide), List.forall_mem_cons.mpr ⟨sc_X5_no gw_895 (by decide) (by decide), fun _ h => absurd h List.not_mem_nil⟩⟩) (fun as hp Q h => by obtain ⟨x, hx, -⟩ := spF_e h; rw [d_M_IIIII_e hx]; exact Nat.le_of_ble_eq_true rfl) ?_
  intro Q G hQi hG as hp h
  obtain ⟨x, hx, hpre, hQ⟩ := spF_e h
  rw [d_M_IIIII_e hx]
  clear h hx
  obtain ⟨s, u, t, v, n⟩ := x
  try dsimp only at hpre hQ ⊢
  have fin : ∀ p, F_copy s u t v n hp = p → Q (some (vI p.1)) p.2 := fun p e => hQ _ _ ⟨by rw [e], p.2.2 66, by rw [e, rL_self]⟩
  refine run hG [115, 152] 60 ?_
  refine And.intro trivial ?_
  refine And.intro (fun h1 => ?_) (fun h1 => ?_)
  case refine_1 =>
    have h1 : inB s 4 = false := bB_0.mp h1
    exact And.intro (vp_in_nI (by omega) (by omega)) (fin _ (if_neg (fun h => by rw [h1] at h; exact absurd h.1 (by decide))))
  have h1 : inB s 4 = true := bB_1.mp h1
  refine And.intro trivial ?_
  refine And.intro (fun h2 => ?_) (fun h2 => ?_)
  case refine_2 =>
    have h2 : inB t 4 = false := bB_0.mp h2
    exact And.intro (vp_in_nI (by omega) (by omega)) (fin _ (if_neg (fun h => by rw [h2] at h; exact absurd h.2 (by decide))))
  have h2 : inB t 4 = true := bB_1.mp h2
  have hF : F_copy s u t v n hp = _ := if_pos ⟨h1, h2⟩
  have hs := inB_t.mp h1
  have ht := inB_t.mp h2
  have ls := hpre.at (ix_lt hs)
  have lt := hpre.at (ix_lt ht)
  refine And.intro hs ?_
  refine And.intro (fun h3 => ?_) (fun h3 => ?_)
  case refine_1 =>
    have h3 : hp.1 63 s.toNatClampNeg = 0 := h3
    rw [if_pos (Or.inl h3)] at hF
    exact And.intro (vp_in_nI (by omega) (by omega)) (fin _ hF)
  have h3 : ¬ hp.1 63 s.toNatClampNeg = 0 := h3
  refine And.intro ht ?_
  refine And.intro (fun h4 => ?_) (fun h4 => ?_)
  case refine_2 =>
    have h4 : hp.1 63 t.toNatClampNeg = 0 := h4
    rw [if_pos (Or.inr h4)] at hF
    exact And.intro (vp_in_nI (by omega) (by omega)) (fin _ hF)
  have h4 : ¬ hp.1 63 t.toNatClampNeg = 0 := h4
  rw [if_neg (fun h => h.elim h3 h4)] at hF
  refine And.intro hs ?_
  refine And.intro ht ?_
  refine And.intro (fun h5 => ?_) (fun h5 => ?_)
  case refine_2 =>
    have h5 : ¬ hp.1 63 s.toNatClampNeg = hp.1 63 t.toNatClampNeg := h5
    rw [if_neg h5] at hF
    exact And.intro (vp_in_nI (by omega) (by omega)) (fin _ hF)
  have h5 : hp.1 63 s.toNatClampNeg = hp.1 63 t.toNatClampNeg := h5
  rw [if_pos h5] at hF
  have no : ¬ (0 ≤ n ∧ 0 ≤ u ∧ 0 ≤ v ∧ u ≤ hp.1 64 s.toNatClampNeg - n ∧ v ≤ hp.1 64 t.toNatClampNeg - n) → Q (some (vI (noP hp 0).1)) (noP hp 0).2 := fun h => by
    rw [if_neg h] at hF
    exact fin _ hF
  refine And.intro (fun h6 => And.intro (vp_in_nI (by omega) (by omega)) (no (fun h => Int32.not_lt.mpr h.1 h6))) (fun h6 => ?_)
  refine And.intro (fun h7 => And.intro (vp_in_nI (by omega) (by omega)) (no (fun h => Int32.not_lt.mpr h.2.1 h7))) (fun h7 => ?_)
  refine And.intro (fun h8 => And.intro (vp_in_nI (by omega) (by omega)) (no (fun h => Int32.not_lt.mpr h.2.2.1 h8))) (fun h8 => ?_)
  refine And.intro hs ?_
  refine And.intro (fun h9 => And.intro (vp_in_nI (by omega) (by omega)) (no (fun h => Int32.not_lt.mpr h.2.2.2.1 h9))) (fun h9 => ?_)
  refine And.intro ht ?_
  refine And.intro (fun h10 => ?_) (fun h10 => And.intro (vp_in_nI (by omega) (by omega)) (no (fun h => h10 h.2.2.2.2)))
  have h6 : 0 ≤ n := Int32.not_lt.mp h6
  have h7 : 0 ≤ u := Int32.not_lt.mp h7
  have h8 : 0 ≤ v := Int32.not_lt.mp h8
  have h9 : u ≤ hp.1 64 s.toNatClampNeg - n := Int32.not_lt.mp h9
  have h10 : v ≤ hp.1 64 t.toNatClampNeg - n := h10
  rw [if_pos ⟨h6, h7, h8, h9, h10⟩] at hF
  rw [ls.2] at h9
  rw [lt.2] at h10
  obtain ⟨U, N, hUN, eU, eN⟩ := run_in ls.1 h7 h6 h9
  obtain ⟨V, N2, hVN, eV, eN2⟩ := run_in lt.1 h8 h6 h10
  have ls1 := ls.1
  have lt1 := lt.1
  have eNN : N = N2 := (nI_eq (by omega) (by omega)).mp (eN.symm.trans eN2)
  subst eNN
  obtain ⟨S, hS, eS⟩ := vp_in_of hs (by omega)
  obtain ⟨T, hT, eT⟩ := vp_in_of ht (by omega)
  have eSx : s.toNatClampNeg = S := by rw [eS, nI_clamp (by omega)]
  have eTx : t.toNatClampNeg = T := by rw [eT, nI_clamp (by omega)]
  rw [eSx, eTx, show u.toNatClampNeg = U by rw [eU, nI_clamp (by omega)], show v.toNatClampNeg = V by rw [eV, nI_clamp (by omega)], show n.toNatClampNeg = N by rw [eN, nI_clamp (by omega)]] at hF
  have eA : ∀ k, nI 40 * s + u + nI k = nI (40 * S + U + k) := fun k => by rw [eS, eU, sh_ix, nI_add]
  have eB : ∀ k, nI 40 * t + v + nI k = nI (40 * T + V + k) := fun k => by rw [eT, eV, sh_ix, nI_add]
  generalize hA : 40 * S + U = A at hF eA
  generalize hB : 40 * T + V = B at hF eB
  generalize hC : hp.2 65 = C at hF
  have lay := for_up (P := fun k => G 152 [(6, vI (nI k)), (0, vR 5 52), (1, vI s), (2, vI u), (3, vI t), (4, vI v), (5, vI n)] [] (rL (rL hp 66 (filL (fun j => C (A + j)) (hp.2 66) N)) 65 (filA (fun j => C (A + (j - B))) C B k))) N (by
    refine run hG [152] 60 ?_
    refine And.intro (fun h => ?_) (fun h => absurd (show n ≤ nI N by rw [eN]; exact nI_le (Nat.le_refl _) (by omega)) h)
    refine hQ _ _ ⟨by rw [hF], filL (fun j => C (A + j)) (hp.2 66) N, ?_⟩
    rw [hF]
    exact rL_comm _ _ _ (by omega)) (by
    intro k hk ih
    rw [← filA_s] at ih
    have e2 : (rL (rL hp 66 (filL (fun j => C (A + j)) (hp.2 66) N)) 65 (filA (fun j => C (A + (j - B))) C B k)).2 66 (nI k).toNatClampNeg = C (A + (B + k - B)) := by
      rw [rL_ne _ _ (by omega), rL_eq, nI_clamp (by omega), filL_all k hk, show B + k - B = k by omega]
    refine run hG [152] 60 ?_
    refine And.intro (fun h => absurd (show nI N ≤ nI k by rw [← eN]; exact h) (nI_ge hk (by omega))) (fun h => ?_)
    refine And.intro (vp_in_nI (by omega) (by omega)) ?_
    refine And.intro (show vp_in (nI 40 * t + v + nI k) 160 by rw [eB]; exact vp_in_nI (by omega) (by omega)) ?_
    refine cl_lv hG [(6, vI (nI k + nI 1)), (0, vR 5 52), (1, vI s), (2, vI u), (3, vI t), (4, vI v), (5, vI n)] ⟨rfl, rfl, rfl, rfl, rfl, rfl, rfl, trivial⟩ ?_
    rw [nI_s]
    show G 152 _ [] (uL (rL (rL hp 66 (filL (fun j => C (A + j)) (hp.2 66) N)) 65 (filA (fun j => C (A + (j - B))) C B k)) 65 (nI 40 * t + v + nI k).toNatClampNeg ((rL (rL hp 66 (filL (fun j => C (A + j)) (hp.2 66) N)) 65 (filA (fun j => C (A + (j - B))) C B k)).2 66 (nI k).toNatClampNeg))
    rw [e2, eB, nI_clamp (by omega), uL_rL]
    exact ih) 0 (by omega)
  rw [filA_0, rL_id (show (rL hp 66 (filL (fun j => C (A + j)) (hp.2 66) N)).2 65 = C by rw [rL_ne _ _ (by omega)]; exact hC)] at lay
  have get := for_up (P := fun k => G 115 [(6, vI (nI k)), (0, vR 5 52), (1, vI s), (2, vI u), (3, vI t), (4, vI v), (5, vI n)] [] (rL hp 66 (filL (fun j => C (A + j)) (hp.2 66) k))) N (by
    refine run hG [115, 152] 60 ?_
    refine And.intro (fun h => ?_) (fun h => absurd (show n ≤ nI N by rw [eN]; exact nI_le (Nat.le_refl _) (by omega)) h)
    exact cl_use hG lay ⟨rfl, rfl, rfl, rfl, rfl, rfl, rfl, trivial⟩) (by
    intro k hk ih
    rw [← filL_s] at ih
    refine run hG [115, 152] 60 ?_
    refine And.intro (fun h => absurd (show nI N ≤ nI k by rw [← eN]; exact h) (nI_ge hk (by omega))) (fun h => ?_)
    refine And.intro (show vp_in (nI 40 * s + u + nI k) 160 by rw [eA]; exact vp_in_nI (by omega) (by omega)) ?_
    refine And.intro (vp_in_nI (by omega) (by omega)) ?_
    refine cl_lv hG [(6, vI (nI k + nI 1)), (0, vR 5 52), (1, vI s), (2, vI u), (3, vI t), (4, vI v), (5, vI n)] ⟨rfl, rfl, rfl, rfl, rfl, rfl, rfl, trivial⟩ ?_
    rw [nI_s]
    show G 115 _ [] (uL (rL hp 66 (filL (fun j => C (A + j)) (hp.2 66) k)) 66 (nI k).toNatClampNeg ((rL hp 66 (filL (fun j => C (A + j)) (hp.2 66) k)).2 65 (nI 40 * s + u + nI k).toNatClampNeg))
    rw [rL_ne _ _ (by omega), hC, eA, nI_clamp (by omega), nI_clamp (by omega), uL_rL]
    exact ih) 0 (by omega)
  rw [filL_0, rL_self] at get
  exact cl_use hG get ⟨rfl, rfl, rfl, rfl, rfl, rfl, rfl, trivial⟩
theorem sc_X5_copy {own : String} {F L idx : Nat} (h1 : Cond.methodLink own idx yX5_copy ∈ Gw) (hF : 3 ≤ F) (hL : 68 ≤ L) : SC own F L (idx, false, 6, sp_X5_copy) := SC_V spF_mono c_X5_copy okd_5 (fun as hp K h => by obtain ⟨x, hx, -⟩ := spF_e h; exact ⟨_, _, d_M_IIIII_e hx⟩) h1 gw_1267 gw_1268 gw_75 gw_1269 (by decide +kernel) hF hL
end
