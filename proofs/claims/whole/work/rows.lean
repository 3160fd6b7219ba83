section
-- ===== PART A: goes FIRST, ahead of the names: the tables' words, and 'selects' of the private methods out of them =====
/-- a private method of a class that the tables say can be made, by its rows of tables_1 -/
def lw_okq (q : MethodName × Nat) : Prop := (q.1.cls ≠ "java/lang/invoke/MethodHandle" ∧ q.1.cls ≠ "java/lang/invoke/VarHandle") ∧ Cond.instantiable q.1.cls q.2 ∈ tables_1 ∧ Cond.privateMethod q.1 ∈ tables_1 ∧ Cond.instanceMethod q.1 ∈ tables_1
theorem lw_p0 : lw_okq (⟨"SleepWard", "tell", "(I)I"⟩, 11) := ⟨⟨by decide +kernel, by decide +kernel⟩, List.mem_of_getElem? (i := 17) (by decide +kernel), List.mem_of_getElem? (i := 231) (by decide +kernel), List.mem_of_getElem? (i := 232) (by decide +kernel)⟩
theorem lw_p1 : lw_okq (⟨"SleepWard", "isWalker", "(I)Z"⟩, 11) := ⟨⟨by decide +kernel, by decide +kernel⟩, List.mem_of_getElem? (i := 17) (by decide +kernel), List.mem_of_getElem? (i := 323) (by decide +kernel), List.mem_of_getElem? (i := 324) (by decide +kernel)⟩
theorem lw_p2 : lw_okq (⟨"SleepWard", "isTooLate", "(I)Z"⟩, 11) := ⟨⟨by decide +kernel, by decide +kernel⟩, List.mem_of_getElem? (i := 17) (by decide +kernel), List.mem_of_getElem? (i := 388) (by decide +kernel), List.mem_of_getElem? (i := 389) (by decide +kernel)⟩
theorem lw_p3 : lw_okq (⟨"SleepWard", "isSafe", "(JI)Z"⟩, 11) := ⟨⟨by decide +kernel, by decide +kernel⟩, List.mem_of_getElem? (i := 17) (by decide +kernel), List.mem_of_getElem? (i := 459) (by decide +kernel), List.mem_of_getElem? (i := 460) (by decide +kernel)⟩
theorem lw_p4 : lw_okq (⟨"SleepWard", "findBanks", "()I"⟩, 11) := ⟨⟨by decide +kernel, by decide +kernel⟩, List.mem_of_getElem? (i := 17) (by decide +kernel), List.mem_of_getElem? (i := 467) (by decide +kernel), List.mem_of_getElem? (i := 468) (by decide +kernel)⟩
theorem lw_p5 : lw_okq (⟨"SleepWard", "leastBars", "(II)I"⟩, 11) := ⟨⟨by decide +kernel, by decide +kernel⟩, List.mem_of_getElem? (i := 17) (by decide +kernel), List.mem_of_getElem? (i := 473) (by decide +kernel), List.mem_of_getElem? (i := 474) (by decide +kernel)⟩
theorem lw_p6 : lw_okq (⟨"SleepWard", "doorsOf", "(II)J"⟩, 11) := ⟨⟨by decide +kernel, by decide +kernel⟩, List.mem_of_getElem? (i := 17) (by decide +kernel), List.mem_of_getElem? (i := 478) (by decide +kernel), List.mem_of_getElem? (i := 479) (by decide +kernel)⟩
theorem lw_p7 : lw_okq (⟨"SleepWard", "placesWithLamps", "(II)J"⟩, 11) := ⟨⟨by decide +kernel, by decide +kernel⟩, List.mem_of_getElem? (i := 17) (by decide +kernel), List.mem_of_getElem? (i := 486) (by decide +kernel), List.mem_of_getElem? (i := 487) (by decide +kernel)⟩
theorem lw_p8 : lw_okq (⟨"SleepWard", "spreadOdds", "(II)V"⟩, 11) := ⟨⟨by decide +kernel, by decide +kernel⟩, List.mem_of_getElem? (i := 17) (by decide +kernel), List.mem_of_getElem? (i := 507) (by decide +kernel), List.mem_of_getElem? (i := 508) (by decide +kernel)⟩
theorem lw_p9 : lw_okq (⟨"SleepWard", "spreadFrom", "(I)V"⟩, 11) := ⟨⟨by decide +kernel, by decide +kernel⟩, List.mem_of_getElem? (i := 17) (by decide +kernel), List.mem_of_getElem? (i := 514) (by decide +kernel), List.mem_of_getElem? (i := 515) (by decide +kernel)⟩
theorem lw_p10 : lw_okq (⟨"SleepWard$Text", "nextToken", "()V"⟩, 7) := ⟨⟨by decide +kernel, by decide +kernel⟩, List.mem_of_getElem? (i := 122) (by decide +kernel), List.mem_of_getElem? (i := 544) (by decide +kernel), List.mem_of_getElem? (i := 545) (by decide +kernel)⟩
theorem lw_p11 : lw_okq (⟨"SleepWard$Text", "readItem", "(LSleepWard$Ward;)V"⟩, 7) := ⟨⟨by decide +kernel, by decide +kernel⟩, List.mem_of_getElem? (i := 122) (by decide +kernel), List.mem_of_getElem? (i := 555) (by decide +kernel), List.mem_of_getElem? (i := 556) (by decide +kernel)⟩
theorem lw_p12 : lw_okq (⟨"SleepWard$Text", "takesWord", "(Ljava/lang/String;)Z"⟩, 7) := ⟨⟨by decide +kernel, by decide +kernel⟩, List.mem_of_getElem? (i := 122) (by decide +kernel), List.mem_of_getElem? (i := 560) (by decide +kernel), List.mem_of_getElem? (i := 561) (by decide +kernel)⟩
theorem lw_p13 : lw_okq (⟨"SleepWard$Text", "isWord", "(Ljava/lang/String;)Z"⟩, 7) := ⟨⟨by decide +kernel, by decide +kernel⟩, List.mem_of_getElem? (i := 122) (by decide +kernel), List.mem_of_getElem? (i := 564) (by decide +kernel), List.mem_of_getElem? (i := 565) (by decide +kernel)⟩
theorem lw_p14 : lw_okq (⟨"SleepWard$Text", "readDoor", "(LSleepWard$Ward;Z)V"⟩, 7) := ⟨⟨by decide +kernel, by decide +kernel⟩, List.mem_of_getElem? (i := 122) (by decide +kernel), List.mem_of_getElem? (i := 616) (by decide +kernel), List.mem_of_getElem? (i := 617) (by decide +kernel)⟩
theorem lw_p15 : lw_okq (⟨"SleepWard$Text", "takeNumber", "(I)I"⟩, 7) := ⟨⟨by decide +kernel, by decide +kernel⟩, List.mem_of_getElem? (i := 122) (by decide +kernel), List.mem_of_getElem? (i := 620) (by decide +kernel), List.mem_of_getElem? (i := 621) (by decide +kernel)⟩
def lw_privs_1 : List (MethodName × Nat) := [(⟨"SleepWard", "tell", "(I)I"⟩, 11), (⟨"SleepWard", "isWalker", "(I)Z"⟩, 11), (⟨"SleepWard", "isTooLate", "(I)Z"⟩, 11), (⟨"SleepWard", "isSafe", "(JI)Z"⟩, 11), (⟨"SleepWard", "findBanks", "()I"⟩, 11), (⟨"SleepWard", "leastBars", "(II)I"⟩, 11), (⟨"SleepWard", "doorsOf", "(II)J"⟩, 11), (⟨"SleepWard", "placesWithLamps", "(II)J"⟩, 11), (⟨"SleepWard", "spreadOdds", "(II)V"⟩, 11), (⟨"SleepWard", "spreadFrom", "(I)V"⟩, 11), (⟨"SleepWard$Text", "nextToken", "()V"⟩, 7), (⟨"SleepWard$Text", "readItem", "(LSleepWard$Ward;)V"⟩, 7), (⟨"SleepWard$Text", "takesWord", "(Ljava/lang/String;)Z"⟩, 7), (⟨"SleepWard$Text", "isWord", "(Ljava/lang/String;)Z"⟩, 7), (⟨"SleepWard$Text", "readDoor", "(LSleepWard$Ward;Z)V"⟩, 7), (⟨"SleepWard$Text", "takeNumber", "(I)I"⟩, 7)]
theorem lw_r1 : ∀ q ∈ lw_privs_1, lw_okq q := List.forall_mem_cons.mpr ⟨lw_p0, List.forall_mem_cons.mpr ⟨lw_p1, List.forall_mem_cons.mpr ⟨lw_p2, List.forall_mem_cons.mpr ⟨lw_p3, List.forall_mem_cons.mpr ⟨lw_p4, List.forall_mem_cons.mpr ⟨lw_p5, List.forall_mem_cons.mpr ⟨lw_p6, List.forall_mem_cons.mpr ⟨lw_p7, List.forall_mem_cons.mpr ⟨lw_p8, List.forall_mem_cons.mpr ⟨lw_p9, List.forall_mem_cons.mpr ⟨lw_p10, List.forall_mem_cons.mpr ⟨lw_p11, List.forall_mem_cons.mpr ⟨lw_p12, List.forall_mem_cons.mpr ⟨lw_p13, List.forall_mem_cons.mpr ⟨lw_p14, List.forall_mem_cons.mpr ⟨lw_p15, fun _ h => absurd h List.not_mem_nil⟩⟩⟩⟩⟩⟩⟩⟩⟩⟩⟩⟩⟩⟩⟩⟩
theorem lw_p16 : lw_okq (⟨"SleepWard$Text", "readHeight", "(LSleepWard$Ward;)V"⟩, 7) := ⟨⟨by decide +kernel, by decide +kernel⟩, List.mem_of_getElem? (i := 122) (by decide +kernel), List.mem_of_getElem? (i := 628) (by decide +kernel), List.mem_of_getElem? (i := 629) (by decide +kernel)⟩
theorem lw_p17 : lw_okq (⟨"SleepWard$Text", "readRiver", "(LSleepWard$Ward;Z)V"⟩, 7) := ⟨⟨by decide +kernel, by decide +kernel⟩, List.mem_of_getElem? (i := 122) (by decide +kernel), List.mem_of_getElem? (i := 635) (by decide +kernel), List.mem_of_getElem? (i := 636) (by decide +kernel)⟩
theorem lw_p18 : lw_okq (⟨"SleepWard$Text", "readRounds", "(LSleepWard$Ward;)V"⟩, 7) := ⟨⟨by decide +kernel, by decide +kernel⟩, List.mem_of_getElem? (i := 122) (by decide +kernel), List.mem_of_getElem? (i := 643) (by decide +kernel), List.mem_of_getElem? (i := 644) (by decide +kernel)⟩
theorem lw_p19 : lw_okq (⟨"SleepWard$Text", "readWalker", "(LSleepWard$Ward;)V"⟩, 7) := ⟨⟨by decide +kernel, by decide +kernel⟩, List.mem_of_getElem? (i := 122) (by decide +kernel), List.mem_of_getElem? (i := 649) (by decide +kernel), List.mem_of_getElem? (i := 650) (by decide +kernel)⟩
theorem lw_p20 : lw_okq (⟨"SleepWard$Text", "kindOfWord", "()I"⟩, 7) := ⟨⟨by decide +kernel, by decide +kernel⟩, List.mem_of_getElem? (i := 122) (by decide +kernel), List.mem_of_getElem? (i := 653) (by decide +kernel), List.mem_of_getElem? (i := 654) (by decide +kernel)⟩
theorem lw_p21 : lw_okq (⟨"SleepWardModel", "doorOf", "(II)I"⟩, 19) := ⟨⟨by decide +kernel, by decide +kernel⟩, List.mem_of_getElem? (i := 741) (by decide +kernel), List.mem_of_getElem? (i := 809) (by decide +kernel), List.mem_of_getElem? (i := 810) (by decide +kernel)⟩
theorem lw_p22 : lw_okq (⟨"SleepWardModel", "no", "(I)I"⟩, 19) := ⟨⟨by decide +kernel, by decide +kernel⟩, List.mem_of_getElem? (i := 741) (by decide +kernel), List.mem_of_getElem? (i := 828) (by decide +kernel), List.mem_of_getElem? (i := 829) (by decide +kernel)⟩
theorem lw_p23 : lw_okq (⟨"SleepWardModel", "puts", "(II)I"⟩, 19) := ⟨⟨by decide +kernel, by decide +kernel⟩, List.mem_of_getElem? (i := 741) (by decide +kernel), List.mem_of_getElem? (i := 833) (by decide +kernel), List.mem_of_getElem? (i := 834) (by decide +kernel)⟩
theorem lw_p24 : lw_okq (⟨"SleepWardModel", "walkersAt", "(I)I"⟩, 19) := ⟨⟨by decide +kernel, by decide +kernel⟩, List.mem_of_getElem? (i := 741) (by decide +kernel), List.mem_of_getElem? (i := 853) (by decide +kernel), List.mem_of_getElem? (i := 854) (by decide +kernel)⟩
theorem lw_p25 : lw_okq (⟨"SleepWardModel", "has", "(II)I"⟩, 19) := ⟨⟨by decide +kernel, by decide +kernel⟩, List.mem_of_getElem? (i := 741) (by decide +kernel), List.mem_of_getElem? (i := 857) (by decide +kernel), List.mem_of_getElem? (i := 858) (by decide +kernel)⟩
theorem lw_p26 : lw_okq (⟨"SleepWardModel", "adds", "(III)V"⟩, 19) := ⟨⟨by decide +kernel, by decide +kernel⟩, List.mem_of_getElem? (i := 741) (by decide +kernel), List.mem_of_getElem? (i := 883) (by decide +kernel), List.mem_of_getElem? (i := 884) (by decide +kernel)⟩
theorem lw_p27 : lw_okq (⟨"SleepWardModel", "gets", "(III)I"⟩, 19) := ⟨⟨by decide +kernel, by decide +kernel⟩, List.mem_of_getElem? (i := 741) (by decide +kernel), List.mem_of_getElem? (i := 887) (by decide +kernel), List.mem_of_getElem? (i := 888) (by decide +kernel)⟩
theorem lw_p28 : lw_okq (⟨"SleepWardModel", "isWalker", "(I)Z"⟩, 19) := ⟨⟨by decide +kernel, by decide +kernel⟩, List.mem_of_getElem? (i := 741) (by decide +kernel), List.mem_of_getElem? (i := 895) (by decide +kernel), List.mem_of_getElem? (i := 896) (by decide +kernel)⟩
theorem lw_p29 : lw_okq (⟨"SleepWardModel", "waysFrom", "(I)I"⟩, 19) := ⟨⟨by decide +kernel, by decide +kernel⟩, List.mem_of_getElem? (i := 741) (by decide +kernel), List.mem_of_getElem? (i := 899) (by decide +kernel), List.mem_of_getElem? (i := 900) (by decide +kernel)⟩
theorem lw_p30 : lw_okq (⟨"SleepWardModel", "may", "(II)Z"⟩, 19) := ⟨⟨by decide +kernel, by decide +kernel⟩, List.mem_of_getElem? (i := 741) (by decide +kernel), List.mem_of_getElem? (i := 903) (by decide +kernel), List.mem_of_getElem? (i := 904) (by decide +kernel)⟩
theorem lw_p31 : lw_okq (⟨"SleepWardModel", "stepOf", "(I)I"⟩, 19) := ⟨⟨by decide +kernel, by decide +kernel⟩, List.mem_of_getElem? (i := 741) (by decide +kernel), List.mem_of_getElem? (i := 930) (by decide +kernel), List.mem_of_getElem? (i := 931) (by decide +kernel)⟩
def lw_privs_2 : List (MethodName × Nat) := [(⟨"SleepWard$Text", "readHeight", "(LSleepWard$Ward;)V"⟩, 7), (⟨"SleepWard$Text", "readRiver", "(LSleepWard$Ward;Z)V"⟩, 7), (⟨"SleepWard$Text", "readRounds", "(LSleepWard$Ward;)V"⟩, 7), (⟨"SleepWard$Text", "readWalker", "(LSleepWard$Ward;)V"⟩, 7), (⟨"SleepWard$Text", "kindOfWord", "()I"⟩, 7), (⟨"SleepWardModel", "doorOf", "(II)I"⟩, 19), (⟨"SleepWardModel", "no", "(I)I"⟩, 19), (⟨"SleepWardModel", "puts", "(II)I"⟩, 19), (⟨"SleepWardModel", "walkersAt", "(I)I"⟩, 19), (⟨"SleepWardModel", "has", "(II)I"⟩, 19), (⟨"SleepWardModel", "adds", "(III)V"⟩, 19), (⟨"SleepWardModel", "gets", "(III)I"⟩, 19), (⟨"SleepWardModel", "isWalker", "(I)Z"⟩, 19), (⟨"SleepWardModel", "waysFrom", "(I)I"⟩, 19), (⟨"SleepWardModel", "may", "(II)Z"⟩, 19), (⟨"SleepWardModel", "stepOf", "(I)I"⟩, 19)]
theorem lw_r2 : ∀ q ∈ lw_privs_2, lw_okq q := List.forall_mem_cons.mpr ⟨lw_p16, List.forall_mem_cons.mpr ⟨lw_p17, List.forall_mem_cons.mpr ⟨lw_p18, List.forall_mem_cons.mpr ⟨lw_p19, List.forall_mem_cons.mpr ⟨lw_p20, List.forall_mem_cons.mpr ⟨lw_p21, List.forall_mem_cons.mpr ⟨lw_p22, List.forall_mem_cons.mpr ⟨lw_p23, List.forall_mem_cons.mpr ⟨lw_p24, List.forall_mem_cons.mpr ⟨lw_p25, List.forall_mem_cons.mpr ⟨lw_p26, List.forall_mem_cons.mpr ⟨lw_p27, List.forall_mem_cons.mpr ⟨lw_p28, List.forall_mem_cons.mpr ⟨lw_p29, List.forall_mem_cons.mpr ⟨lw_p30, List.forall_mem_cons.mpr ⟨lw_p31, fun _ h => absurd h List.not_mem_nil⟩⟩⟩⟩⟩⟩⟩⟩⟩⟩⟩⟩⟩⟩⟩⟩
theorem lw_p32 : lw_okq (⟨"SleepWardModel", "turned", "(IIZ)I"⟩, 19) := ⟨⟨by decide +kernel, by decide +kernel⟩, List.mem_of_getElem? (i := 741) (by decide +kernel), List.mem_of_getElem? (i := 934) (by decide +kernel), List.mem_of_getElem? (i := 935) (by decide +kernel)⟩
theorem lw_p33 : lw_okq (⟨"SleepWardModel", "slopeStep", "(II)I"⟩, 19) := ⟨⟨by decide +kernel, by decide +kernel⟩, List.mem_of_getElem? (i := 741) (by decide +kernel), List.mem_of_getElem? (i := 938) (by decide +kernel), List.mem_of_getElem? (i := 939) (by decide +kernel)⟩
theorem lw_p34 : lw_okq (⟨"SleepWardModel", "lampStep", "(II)I"⟩, 19) := ⟨⟨by decide +kernel, by decide +kernel⟩, List.mem_of_getElem? (i := 741) (by decide +kernel), List.mem_of_getElem? (i := 942) (by decide +kernel), List.mem_of_getElem? (i := 943) (by decide +kernel)⟩
theorem lw_p35 : lw_okq (⟨"SleepWardModel", "wanderStep", "(I)I"⟩, 19) := ⟨⟨by decide +kernel, by decide +kernel⟩, List.mem_of_getElem? (i := 741) (by decide +kernel), List.mem_of_getElem? (i := 946) (by decide +kernel), List.mem_of_getElem? (i := 947) (by decide +kernel)⟩
theorem lw_p36 : lw_okq (⟨"SleepWardModel", "draw", "()I"⟩, 19) := ⟨⟨by decide +kernel, by decide +kernel⟩, List.mem_of_getElem? (i := 741) (by decide +kernel), List.mem_of_getElem? (i := 950) (by decide +kernel), List.mem_of_getElem? (i := 951) (by decide +kernel)⟩
theorem lw_p37 : lw_okq (⟨"SleepWardModel", "isLate", "(I)Z"⟩, 19) := ⟨⟨by decide +kernel, by decide +kernel⟩, List.mem_of_getElem? (i := 741) (by decide +kernel), List.mem_of_getElem? (i := 962) (by decide +kernel), List.mem_of_getElem? (i := 963) (by decide +kernel)⟩
theorem lw_p38 : lw_okq (⟨"SleepWardModel", "inRiver", "()I"⟩, 19) := ⟨⟨by decide +kernel, by decide +kernel⟩, List.mem_of_getElem? (i := 741) (by decide +kernel), List.mem_of_getElem? (i := 966) (by decide +kernel), List.mem_of_getElem? (i := 967) (by decide +kernel)⟩
theorem lw_p39 : lw_okq (⟨"SleepWardModel", "isIn", "(I)Z"⟩, 19) := ⟨⟨by decide +kernel, by decide +kernel⟩, List.mem_of_getElem? (i := 741) (by decide +kernel), List.mem_of_getElem? (i := 970) (by decide +kernel), List.mem_of_getElem? (i := 971) (by decide +kernel)⟩
theorem lw_p40 : lw_okq (⟨"SleepWardModel", "go", "(I)V"⟩, 19) := ⟨⟨by decide +kernel, by decide +kernel⟩, List.mem_of_getElem? (i := 741) (by decide +kernel), List.mem_of_getElem? (i := 974) (by decide +kernel), List.mem_of_getElem? (i := 975) (by decide +kernel)⟩
theorem lw_p41 : lw_okq (⟨"SleepWardModel", "minute", "()V"⟩, 19) := ⟨⟨by decide +kernel, by decide +kernel⟩, List.mem_of_getElem? (i := 741) (by decide +kernel), List.mem_of_getElem? (i := 978) (by decide +kernel), List.mem_of_getElem? (i := 979) (by decide +kernel)⟩
theorem lw_p42 : lw_okq (⟨"SleepWardModel", "goes", "(I)Z"⟩, 19) := ⟨⟨by decide +kernel, by decide +kernel⟩, List.mem_of_getElem? (i := 741) (by decide +kernel), List.mem_of_getElem? (i := 982) (by decide +kernel), List.mem_of_getElem? (i := 983) (by decide +kernel)⟩
theorem lw_p43 : lw_okq (⟨"SleepWardModel", "homeMany", "()I"⟩, 19) := ⟨⟨by decide +kernel, by decide +kernel⟩, List.mem_of_getElem? (i := 741) (by decide +kernel), List.mem_of_getElem? (i := 990) (by decide +kernel), List.mem_of_getElem? (i := 991) (by decide +kernel)⟩
theorem lw_p44 : lw_okq (⟨"SleepWardModel", "awake", "()I"⟩, 19) := ⟨⟨by decide +kernel, by decide +kernel⟩, List.mem_of_getElem? (i := 741) (by decide +kernel), List.mem_of_getElem? (i := 1002) (by decide +kernel), List.mem_of_getElem? (i := 1003) (by decide +kernel)⟩
theorem lw_p45 : lw_okq (⟨"SleepWardModel", "soonest", "(III)I"⟩, 19) := ⟨⟨by decide +kernel, by decide +kernel⟩, List.mem_of_getElem? (i := 741) (by decide +kernel), List.mem_of_getElem? (i := 1017) (by decide +kernel), List.mem_of_getElem? (i := 1018) (by decide +kernel)⟩
theorem lw_p46 : lw_okq (⟨"SleepWardModel", "is", "(III)Z"⟩, 19) := ⟨⟨by decide +kernel, by decide +kernel⟩, List.mem_of_getElem? (i := 741) (by decide +kernel), List.mem_of_getElem? (i := 1021) (by decide +kernel), List.mem_of_getElem? (i := 1022) (by decide +kernel)⟩
theorem lw_p47 : lw_okq (⟨"SleepWardModel", "isSafe", "(I)Z"⟩, 19) := ⟨⟨by decide +kernel, by decide +kernel⟩, List.mem_of_getElem? (i := 741) (by decide +kernel), List.mem_of_getElem? (i := 1037) (by decide +kernel), List.mem_of_getElem? (i := 1038) (by decide +kernel)⟩
def lw_privs_3 : List (MethodName × Nat) := [(⟨"SleepWardModel", "turned", "(IIZ)I"⟩, 19), (⟨"SleepWardModel", "slopeStep", "(II)I"⟩, 19), (⟨"SleepWardModel", "lampStep", "(II)I"⟩, 19), (⟨"SleepWardModel", "wanderStep", "(I)I"⟩, 19), (⟨"SleepWardModel", "draw", "()I"⟩, 19), (⟨"SleepWardModel", "isLate", "(I)Z"⟩, 19), (⟨"SleepWardModel", "inRiver", "()I"⟩, 19), (⟨"SleepWardModel", "isIn", "(I)Z"⟩, 19), (⟨"SleepWardModel", "go", "(I)V"⟩, 19), (⟨"SleepWardModel", "minute", "()V"⟩, 19), (⟨"SleepWardModel", "goes", "(I)Z"⟩, 19), (⟨"SleepWardModel", "homeMany", "()I"⟩, 19), (⟨"SleepWardModel", "awake", "()I"⟩, 19), (⟨"SleepWardModel", "soonest", "(III)I"⟩, 19), (⟨"SleepWardModel", "is", "(III)Z"⟩, 19), (⟨"SleepWardModel", "isSafe", "(I)Z"⟩, 19)]
theorem lw_r3 : ∀ q ∈ lw_privs_3, lw_okq q := List.forall_mem_cons.mpr ⟨lw_p32, List.forall_mem_cons.mpr ⟨lw_p33, List.forall_mem_cons.mpr ⟨lw_p34, List.forall_mem_cons.mpr ⟨lw_p35, List.forall_mem_cons.mpr ⟨lw_p36, List.forall_mem_cons.mpr ⟨lw_p37, List.forall_mem_cons.mpr ⟨lw_p38, List.forall_mem_cons.mpr ⟨lw_p39, List.forall_mem_cons.mpr ⟨lw_p40, List.forall_mem_cons.mpr ⟨lw_p41, List.forall_mem_cons.mpr ⟨lw_p42, List.forall_mem_cons.mpr ⟨lw_p43, List.forall_mem_cons.mpr ⟨lw_p44, List.forall_mem_cons.mpr ⟨lw_p45, List.forall_mem_cons.mpr ⟨lw_p46, List.forall_mem_cons.mpr ⟨lw_p47, fun _ h => absurd h List.not_mem_nil⟩⟩⟩⟩⟩⟩⟩⟩⟩⟩⟩⟩⟩⟩⟩⟩
theorem lw_p48 : lw_okq (⟨"SleepWardModel", "banks", "()I"⟩, 19) := ⟨⟨by decide +kernel, by decide +kernel⟩, List.mem_of_getElem? (i := 741) (by decide +kernel), List.mem_of_getElem? (i := 1045) (by decide +kernel), List.mem_of_getElem? (i := 1046) (by decide +kernel)⟩
theorem lw_p49 : lw_okq (⟨"SleepWardModel", "isSafeBy", "(III)Z"⟩, 19) := ⟨⟨by decide +kernel, by decide +kernel⟩, List.mem_of_getElem? (i := 741) (by decide +kernel), List.mem_of_getElem? (i := 1049) (by decide +kernel), List.mem_of_getElem? (i := 1050) (by decide +kernel)⟩
theorem lw_p50 : lw_okq (⟨"SleepWardModel", "spreads", "(II)V"⟩, 19) := ⟨⟨by decide +kernel, by decide +kernel⟩, List.mem_of_getElem? (i := 741) (by decide +kernel), List.mem_of_getElem? (i := 1069) (by decide +kernel), List.mem_of_getElem? (i := 1070) (by decide +kernel)⟩
theorem lw_p51 : lw_okq (⟨"SleepWardModel", "item", "()Z"⟩, 19) := ⟨⟨by decide +kernel, by decide +kernel⟩, List.mem_of_getElem? (i := 741) (by decide +kernel), List.mem_of_getElem? (i := 1090) (by decide +kernel), List.mem_of_getElem? (i := 1091) (by decide +kernel)⟩
theorem lw_p52 : lw_okq (⟨"SleepWardModel", "isWord", "(Ljava/lang/String;)Z"⟩, 19) := ⟨⟨by decide +kernel, by decide +kernel⟩, List.mem_of_getElem? (i := 741) (by decide +kernel), List.mem_of_getElem? (i := 1103) (by decide +kernel), List.mem_of_getElem? (i := 1104) (by decide +kernel)⟩
theorem lw_p53 : lw_okq (⟨"SleepWardModel", "blanks", "()V"⟩, 19) := ⟨⟨by decide +kernel, by decide +kernel⟩, List.mem_of_getElem? (i := 741) (by decide +kernel), List.mem_of_getElem? (i := 1107) (by decide +kernel), List.mem_of_getElem? (i := 1108) (by decide +kernel)⟩
theorem lw_p54 : lw_okq (⟨"SleepWardModel", "byteAt", "(I)I"⟩, 19) := ⟨⟨by decide +kernel, by decide +kernel⟩, List.mem_of_getElem? (i := 741) (by decide +kernel), List.mem_of_getElem? (i := 1111) (by decide +kernel), List.mem_of_getElem? (i := 1112) (by decide +kernel)⟩
theorem lw_p55 : lw_okq (⟨"SleepWardModel", "wordEnd", "()I"⟩, 19) := ⟨⟨by decide +kernel, by decide +kernel⟩, List.mem_of_getElem? (i := 741) (by decide +kernel), List.mem_of_getElem? (i := 1115) (by decide +kernel), List.mem_of_getElem? (i := 1116) (by decide +kernel)⟩
theorem lw_p56 : lw_okq (⟨"SleepWardModel", "fails", "()Z"⟩, 19) := ⟨⟨by decide +kernel, by decide +kernel⟩, List.mem_of_getElem? (i := 741) (by decide +kernel), List.mem_of_getElem? (i := 1124) (by decide +kernel), List.mem_of_getElem? (i := 1125) (by decide +kernel)⟩
theorem lw_p57 : lw_okq (⟨"SleepWardModel", "may", "(Ljava/lang/String;)Z"⟩, 19) := ⟨⟨by decide +kernel, by decide +kernel⟩, List.mem_of_getElem? (i := 741) (by decide +kernel), List.mem_of_getElem? (i := 1128) (by decide +kernel), List.mem_of_getElem? (i := 1129) (by decide +kernel)⟩
theorem lw_p58 : lw_okq (⟨"SleepWardModel", "walkerTold", "(I)Z"⟩, 19) := ⟨⟨by decide +kernel, by decide +kernel⟩, List.mem_of_getElem? (i := 741) (by decide +kernel), List.mem_of_getElem? (i := 1132) (by decide +kernel), List.mem_of_getElem? (i := 1133) (by decide +kernel)⟩
theorem lw_p59 : lw_okq (⟨"SleepWardModel", "must", "(Ljava/lang/String;)Z"⟩, 19) := ⟨⟨by decide +kernel, by decide +kernel⟩, List.mem_of_getElem? (i := 741) (by decide +kernel), List.mem_of_getElem? (i := 1137) (by decide +kernel), List.mem_of_getElem? (i := 1138) (by decide +kernel)⟩
theorem lw_p60 : lw_okq (⟨"SleepWardModel", "number", "(II)Z"⟩, 19) := ⟨⟨by decide +kernel, by decide +kernel⟩, List.mem_of_getElem? (i := 741) (by decide +kernel), List.mem_of_getElem? (i := 1141) (by decide +kernel), List.mem_of_getElem? (i := 1142) (by decide +kernel)⟩
theorem lw_p61 : lw_okq (⟨"SleepWardModel", "doorTold", "(I)Z"⟩, 19) := ⟨⟨by decide +kernel, by decide +kernel⟩, List.mem_of_getElem? (i := 741) (by decide +kernel), List.mem_of_getElem? (i := 1156) (by decide +kernel), List.mem_of_getElem? (i := 1157) (by decide +kernel)⟩
theorem lw_p62 : lw_okq (⟨"SleepWardModel", "heightTold", "()Z"⟩, 19) := ⟨⟨by decide +kernel, by decide +kernel⟩, List.mem_of_getElem? (i := 741) (by decide +kernel), List.mem_of_getElem? (i := 1162) (by decide +kernel), List.mem_of_getElem? (i := 1163) (by decide +kernel)⟩
theorem lw_p63 : lw_okq (⟨"SleepWardModel", "markTold", "(II)Z"⟩, 19) := ⟨⟨by decide +kernel, by decide +kernel⟩, List.mem_of_getElem? (i := 741) (by decide +kernel), List.mem_of_getElem? (i := 1167) (by decide +kernel), List.mem_of_getElem? (i := 1168) (by decide +kernel)⟩
def lw_privs_4 : List (MethodName × Nat) := [(⟨"SleepWardModel", "banks", "()I"⟩, 19), (⟨"SleepWardModel", "isSafeBy", "(III)Z"⟩, 19), (⟨"SleepWardModel", "spreads", "(II)V"⟩, 19), (⟨"SleepWardModel", "item", "()Z"⟩, 19), (⟨"SleepWardModel", "isWord", "(Ljava/lang/String;)Z"⟩, 19), (⟨"SleepWardModel", "blanks", "()V"⟩, 19), (⟨"SleepWardModel", "byteAt", "(I)I"⟩, 19), (⟨"SleepWardModel", "wordEnd", "()I"⟩, 19), (⟨"SleepWardModel", "fails", "()Z"⟩, 19), (⟨"SleepWardModel", "may", "(Ljava/lang/String;)Z"⟩, 19), (⟨"SleepWardModel", "walkerTold", "(I)Z"⟩, 19), (⟨"SleepWardModel", "must", "(Ljava/lang/String;)Z"⟩, 19), (⟨"SleepWardModel", "number", "(II)Z"⟩, 19), (⟨"SleepWardModel", "doorTold", "(I)Z"⟩, 19), (⟨"SleepWardModel", "heightTold", "()Z"⟩, 19), (⟨"SleepWardModel", "markTold", "(II)Z"⟩, 19)]
theorem lw_r4 : ∀ q ∈ lw_privs_4, lw_okq q := List.forall_mem_cons.mpr ⟨lw_p48, List.forall_mem_cons.mpr ⟨lw_p49, List.forall_mem_cons.mpr ⟨lw_p50, List.forall_mem_cons.mpr ⟨lw_p51, List.forall_mem_cons.mpr ⟨lw_p52, List.forall_mem_cons.mpr ⟨lw_p53, List.forall_mem_cons.mpr ⟨lw_p54, List.forall_mem_cons.mpr ⟨lw_p55, List.forall_mem_cons.mpr ⟨lw_p56, List.forall_mem_cons.mpr ⟨lw_p57, List.forall_mem_cons.mpr ⟨lw_p58, List.forall_mem_cons.mpr ⟨lw_p59, List.forall_mem_cons.mpr ⟨lw_p60, List.forall_mem_cons.mpr ⟨lw_p61, List.forall_mem_cons.mpr ⟨lw_p62, List.forall_mem_cons.mpr ⟨lw_p63, fun _ h => absurd h List.not_mem_nil⟩⟩⟩⟩⟩⟩⟩⟩⟩⟩⟩⟩⟩⟩⟩⟩
theorem lw_p64 : lw_okq (⟨"SleepWardModel", "roundsTold", "()Z"⟩, 19) := ⟨⟨by decide +kernel, by decide +kernel⟩, List.mem_of_getElem? (i := 741) (by decide +kernel), List.mem_of_getElem? (i := 1175) (by decide +kernel), List.mem_of_getElem? (i := 1176) (by decide +kernel)⟩
theorem lw_p65 : lw_okq (⟨"SleepWardModel", "isNumber", "()Z"⟩, 19) := ⟨⟨by decide +kernel, by decide +kernel⟩, List.mem_of_getElem? (i := 741) (by decide +kernel), List.mem_of_getElem? (i := 1180) (by decide +kernel), List.mem_of_getElem? (i := 1181) (by decide +kernel)⟩
theorem lw_p66 : lw_okq (⟨"SleepWardModel", "writes", "(IIJ)V"⟩, 19) := ⟨⟨by decide +kernel, by decide +kernel⟩, List.mem_of_getElem? (i := 741) (by decide +kernel), List.mem_of_getElem? (i := 1195) (by decide +kernel), List.mem_of_getElem? (i := 1196) (by decide +kernel)⟩
theorem lw_p67 : lw_okq (⟨"SleepWardModel", "sumOf", "(II)I"⟩, 19) := ⟨⟨by decide +kernel, by decide +kernel⟩, List.mem_of_getElem? (i := 741) (by decide +kernel), List.mem_of_getElem? (i := 1232) (by decide +kernel), List.mem_of_getElem? (i := 1233) (by decide +kernel)⟩
def lw_privs_5 : List (MethodName × Nat) := [(⟨"SleepWardModel", "roundsTold", "()Z"⟩, 19), (⟨"SleepWardModel", "isNumber", "()Z"⟩, 19), (⟨"SleepWardModel", "writes", "(IIJ)V"⟩, 19), (⟨"SleepWardModel", "sumOf", "(II)I"⟩, 19)]
theorem lw_r5 : ∀ q ∈ lw_privs_5, lw_okq q := List.forall_mem_cons.mpr ⟨lw_p64, List.forall_mem_cons.mpr ⟨lw_p65, List.forall_mem_cons.mpr ⟨lw_p66, List.forall_mem_cons.mpr ⟨lw_p67, fun _ h => absurd h List.not_mem_nil⟩⟩⟩⟩
def lw_privs : List (MethodName × Nat) := lw_privs_1 ++ (lw_privs_2 ++ (lw_privs_3 ++ (lw_privs_4 ++ (lw_privs_5))))
def lw_tbl : List Cond := k2_sels lw_privs ++ tables_1
theorem lw_privs_ok : ∀ q ∈ lw_privs, lw_okq q := by
  show ∀ q ∈ lw_privs_1 ++ (lw_privs_2 ++ (lw_privs_3 ++ (lw_privs_4 ++ (lw_privs_5)))), lw_okq q
  exact List.forall_mem_append.mpr ⟨lw_r1, List.forall_mem_append.mpr ⟨lw_r2, List.forall_mem_append.mpr ⟨lw_r3, List.forall_mem_append.mpr ⟨lw_r4, lw_r5⟩⟩⟩⟩
def RX0 : String := "SleepWard$Sheet"
def TX0 : u_T := fun k => match k with
  | 0 => ("SleepWard$Sheet", "bits", "I", false)
  | 1 => ("SleepWard$Sheet", "length", "I", false)
  | _ => ("SleepWard$Sheet", "numbers", "[J", true)
def tyX0 : Nat → FieldType := fun k => match k with
  | 0 => .int
  | 1 => .int
  | _ => .array .long
abbrev wsX00 : List Cond := u_ws RX0 TX0 3
theorem nmX0 : ∀ a, a < 3 → ∀ b, b < 3 → a ≠ b → (TX0 a).2.1 ≠ (TX0 b).2.1 := by decide +kernel
theorem tyX0_ok : ∀ k, k < 3 → parseFieldDescriptor (TX0 k).2.2.1 = some (tyX0 k) := by decide +kernel
abbrev cX0_init : ByteArray := prog_2_method_1_code
def yX0_init : MethodName := ⟨RX0, "<init>", "()V"⟩
abbrev cX0_isMissing : ByteArray := prog_2_method_2_code
def yX0_isMissing : MethodName := ⟨RX0, "isMissing", "()Z"⟩
abbrev cX0_clear : ByteArray := prog_2_method_3_code
def yX0_clear : MethodName := ⟨RX0, "clear", "(II)V"⟩
abbrev cX0_putNumber : ByteArray := prog_2_method_4_code
def yX0_putNumber : MethodName := ⟨RX0, "putNumber", "(IJ)V"⟩
abbrev cX0_hasRun : ByteArray := prog_2_method_5_code
def yX0_hasRun : MethodName := ⟨RX0, "hasRun", "(II)Z"⟩
def RX1 : String := "SleepWard$Text"
def TX1 : u_T := fun k => match k with
  | 0 => ("SleepWard$Text", "bytes", "[B", true)
  | 1 => ("SleepWard$Text", "length", "I", false)
  | 2 => ("SleepWard$Text", "fault", "I", false)
  | 3 => ("SleepWard$Text", "token", "I", false)
  | 4 => ("SleepWard$Text", "start", "I", false)
  | 5 => ("SleepWard$Text", "end", "I", false)
  | _ => ("SleepWard$Text", "number", "I", false)
def tyX1 : Nat → FieldType := fun k => match k with
  | 0 => .array .byte
  | 1 => .int
  | 2 => .int
  | 3 => .int
  | 4 => .int
  | 5 => .int
  | _ => .int
abbrev wsX10 : List Cond := u_ws RX1 TX1 7
theorem nmX1 : ∀ a, a < 7 → ∀ b, b < 7 → a ≠ b → (TX1 a).2.1 ≠ (TX1 b).2.1 := by decide +kernel
theorem tyX1_ok : ∀ k, k < 7 → parseFieldDescriptor (TX1 k).2.2.1 = some (tyX1 k) := by decide +kernel
abbrev cX1_init : ByteArray := prog_3_method_1_code
def yX1_init : MethodName := ⟨RX1, "<init>", "()V"⟩
abbrev cX1_addByte : ByteArray := prog_3_method_2_code
def yX1_addByte : MethodName := ⟨RX1, "addByte", "(I)V"⟩
abbrev cX1_readItems : ByteArray := prog_3_method_3_code
def yX1_readItems : MethodName := ⟨RX1, "readItems", "(LSleepWard$Ward;)I"⟩
abbrev cX1_readItem : ByteArray := prog_3_method_4_code
def yX1_readItem : MethodName := ⟨RX1, "readItem", "(LSleepWard$Ward;)V"⟩
abbrev cX1_readDoor : ByteArray := prog_3_method_5_code
def yX1_readDoor : MethodName := ⟨RX1, "readDoor", "(LSleepWard$Ward;Z)V"⟩
abbrev cX1_readHeight : ByteArray := prog_3_method_6_code
def yX1_readHeight : MethodName := ⟨RX1, "readHeight", "(LSleepWard$Ward;)V"⟩
abbrev cX1_readRiver : ByteArray := prog_3_method_7_code
def yX1_readRiver : MethodName := ⟨RX1, "readRiver", "(LSleepWard$Ward;Z)V"⟩
abbrev cX1_readRounds : ByteArray := prog_3_method_8_code
def yX1_readRounds : MethodName := ⟨RX1, "readRounds", "(LSleepWard$Ward;)V"⟩
abbrev cX1_readWalker : ByteArray := prog_3_method_9_code
def yX1_readWalker : MethodName := ⟨RX1, "readWalker", "(LSleepWard$Ward;)V"⟩
abbrev cX1_kindOfWord : ByteArray := prog_3_method_10_code
def yX1_kindOfWord : MethodName := ⟨RX1, "kindOfWord", "()I"⟩
abbrev cX1_nameOf : ByteArray := prog_3_method_11_code
def yX1_nameOf : MethodName := ⟨RX1, "nameOf", "(I)Ljava/lang/String;"⟩
abbrev cX1_takesWord : ByteArray := prog_3_method_12_code
def yX1_takesWord : MethodName := ⟨RX1, "takesWord", "(Ljava/lang/String;)Z"⟩
abbrev cX1_takeNumber : ByteArray := prog_3_method_13_code
def yX1_takeNumber : MethodName := ⟨RX1, "takeNumber", "(I)I"⟩
abbrev cX1_isWord : ByteArray := prog_3_method_14_code
def yX1_isWord : MethodName := ⟨RX1, "isWord", "(Ljava/lang/String;)Z"⟩
abbrev cX1_nextToken : ByteArray := prog_3_method_15_code
def yX1_nextToken : MethodName := ⟨RX1, "nextToken", "()V"⟩
abbrev cX1_isLetter : ByteArray := prog_3_method_16_code
def yX1_isLetter : MethodName := ⟨RX1, "isLetter", "(B)Z"⟩
abbrev cX1_isDigit : ByteArray := prog_3_method_17_code
def yX1_isDigit : MethodName := ⟨RX1, "isDigit", "(B)Z"⟩
def RX2 : String := "SleepWard$Walker"
def TX2 : u_T := fun k => match k with
  | 0 => ("SleepWard$Walker", "kind", "I", false)
  | 1 => ("SleepWard$Walker", "home", "I", false)
  | 2 => ("SleepWard$Walker", "place", "I", false)
  | 3 => ("SleepWard$Walker", "way", "I", false)
  | _ => ("SleepWard$Walker", "awake", "Z", false)
def tyX2 : Nat → FieldType := fun k => match k with
  | 0 => .int
  | 1 => .int
  | 2 => .int
  | 3 => .int
  | _ => .boolean
abbrev wsX20 : List Cond := u_ws RX2 TX2 5
theorem nmX2 : ∀ a, a < 5 → ∀ b, b < 5 → a ≠ b → (TX2 a).2.1 ≠ (TX2 b).2.1 := by decide +kernel
theorem tyX2_ok : ∀ k, k < 5 → parseFieldDescriptor (TX2 k).2.2.1 = some (tyX2 k) := by decide +kernel
abbrev cX2_init : ByteArray := prog_4_method_1_code
def yX2_init : MethodName := ⟨RX2, "<init>", "()V"⟩
abbrev cX2_takeFrom : ByteArray := prog_4_method_2_code
def yX2_takeFrom : MethodName := ⟨RX2, "takeFrom", "(LSleepWard$Walker;)V"⟩
def RX3 : String := "SleepWard$Ward"
def TX3 : u_T := fun k => match k with
  | 0 => ("SleepWard$Ward", "shut", "J", false)
  | 1 => ("SleepWard$Ward", "heights", "[I", true)
  | 2 => ("SleepWard$Ward", "lamps", "I", false)
  | 3 => ("SleepWard$Ward", "river", "I", false)
  | 4 => ("SleepWard$Ward", "moon", "I", false)
  | 5 => ("SleepWard$Ward", "minute", "I", false)
  | 6 => ("SleepWard$Ward", "z", "I", false)
  | 7 => ("SleepWard$Ward", "watcher", "I", false)
  | 8 => ("SleepWard$Ward", "rounds", "[I", true)
  | 9 => ("SleepWard$Ward", "roundCount", "I", false)
  | 10 => ("SleepWard$Ward", "lastRound", "I", false)
  | 11 => ("SleepWard$Ward", "walkers", "[LSleepWard$Walker;", true)
  | _ => ("SleepWard$Ward", "walkerCount", "I", false)
def tyX3 : Nat → FieldType := fun k => match k with
  | 0 => .long
  | 1 => .array .int
  | 2 => .int
  | 3 => .int
  | 4 => .int
  | 5 => .int
  | 6 => .int
  | 7 => .int
  | 8 => .array .int
  | 9 => .int
  | 10 => .int
  | 11 => .array (.object "SleepWard$Walker")
  | _ => .int
abbrev wsX30 : List Cond := u_ws RX3 TX3 13
theorem nmX3 : ∀ a, a < 13 → ∀ b, b < 13 → a ≠ b → (TX3 a).2.1 ≠ (TX3 b).2.1 := by decide +kernel
theorem tyX3_ok : ∀ k, k < 13 → parseFieldDescriptor (TX3 k).2.2.1 = some (tyX3 k) := by decide +kernel
abbrev cX3_init : ByteArray := prog_5_method_1_code
def yX3_init : MethodName := ⟨RX3, "<init>", "()V"⟩
abbrev cX3_takeFrom : ByteArray := prog_5_method_2_code
def yX3_takeFrom : MethodName := ⟨RX3, "takeFrom", "(LSleepWard$Ward;)V"⟩
abbrev cX3_squareBeside : ByteArray := prog_5_method_3_code
def yX3_squareBeside : MethodName := ⟨RX3, "squareBeside", "(II)I"⟩
abbrev cX3_doorBetween : ByteArray := prog_5_method_4_code
def yX3_doorBetween : MethodName := ⟨RX3, "doorBetween", "(II)I"⟩
abbrev cX3_isShut : ByteArray := prog_5_method_5_code
def yX3_isShut : MethodName := ⟨RX3, "isShut", "(I)Z"⟩
abbrev cX3_putDoor : ByteArray := prog_5_method_6_code
def yX3_putDoor : MethodName := ⟨RX3, "putDoor", "(IZ)Z"⟩
abbrev cX3_hasLamp : ByteArray := prog_5_method_7_code
def yX3_hasLamp : MethodName := ⟨RX3, "hasLamp", "(I)Z"⟩
abbrev cX3_putLamp : ByteArray := prog_5_method_8_code
def yX3_putLamp : MethodName := ⟨RX3, "putLamp", "(IZ)Z"⟩
abbrev cX3_isRiver : ByteArray := prog_5_method_9_code
def yX3_isRiver : MethodName := ⟨RX3, "isRiver", "(I)Z"⟩
abbrev cX3_putRiver : ByteArray := prog_5_method_10_code
def yX3_putRiver : MethodName := ⟨RX3, "putRiver", "(IZ)Z"⟩
abbrev cX3_addRound : ByteArray := prog_5_method_11_code
def yX3_addRound : MethodName := ⟨RX3, "addRound", "(I)V"⟩
abbrev cX3_emptyRounds : ByteArray := prog_5_method_12_code
def yX3_emptyRounds : MethodName := ⟨RX3, "emptyRounds", "()V"⟩
abbrev cX3_addWalker : ByteArray := prog_5_method_13_code
def yX3_addWalker : MethodName := ⟨RX3, "addWalker", "(III)V"⟩
abbrev cX3_walkersAt : ByteArray := prog_5_method_14_code
def yX3_walkersAt : MethodName := ⟨RX3, "walkersAt", "(J)I"⟩
abbrev cX3_awakeCount : ByteArray := prog_5_method_15_code
def yX3_awakeCount : MethodName := ⟨RX3, "awakeCount", "()I"⟩
abbrev cX3_riverCount : ByteArray := prog_5_method_16_code
def yX3_riverCount : MethodName := ⟨RX3, "riverCount", "()I"⟩
abbrev cX3_homeCount : ByteArray := prog_5_method_17_code
def yX3_homeCount : MethodName := ⟨RX3, "homeCount", "()I"⟩
abbrev cX3_waysFrom : ByteArray := prog_5_method_18_code
def yX3_waysFrom : MethodName := ⟨RX3, "waysFrom", "(I)I"⟩
abbrev cX3_stepOf : ByteArray := prog_5_method_19_code
def yX3_stepOf : MethodName := ⟨RX3, "stepOf", "(LSleepWard$Walker;)I"⟩
abbrev cX3_plainStep : ByteArray := prog_5_method_20_code
def yX3_plainStep : MethodName := ⟨RX3, "plainStep", "(II)I"⟩
abbrev cX3_slopeStep : ByteArray := prog_5_method_21_code
def yX3_slopeStep : MethodName := ⟨RX3, "slopeStep", "(LSleepWard$Walker;I)I"⟩
abbrev cX3_lampStep : ByteArray := prog_5_method_22_code
def yX3_lampStep : MethodName := ⟨RX3, "lampStep", "(LSleepWard$Walker;I)I"⟩
abbrev cX3_drawnStep : ByteArray := prog_5_method_23_code
def yX3_drawnStep : MethodName := ⟨RX3, "drawnStep", "(I)I"⟩
abbrev cX3_goMinutes : ByteArray := prog_5_method_24_code
def yX3_goMinutes : MethodName := ⟨RX3, "goMinutes", "(I)I"⟩
abbrev cX3_goMinute : ByteArray := prog_5_method_25_code
def yX3_goMinute : MethodName := ⟨RX3, "goMinute", "()I"⟩
def RX4 : String := "SleepWard"
def TX4 : u_T := fun k => match k with
  | 0 => ("SleepWard", "here", "LSleepWard$Ward;", true)
  | 1 => ("SleepWard", "ahead", "LSleepWard$Ward;", true)
  | 2 => ("SleepWard", "kept", "LSleepWard$Ward;", true)
  | 3 => ("SleepWard", "isKept", "Z", false)
  | 4 => ("SleepWard", "text", "LSleepWard$Text;", true)
  | 5 => ("SleepWard", "sheets", "[LSleepWard$Sheet;", true)
  | 6 => ("SleepWard", "banks", "[I", true)
  | 7 => ("SleepWard", "parts", "[J", true)
  | 8 => ("SleepWard", "nextParts", "[J", true)
  | 9 => ("SleepWard", "found", "[I", true)
  | _ => ("SleepWard", "foundInAll", "I", false)
def tyX4 : Nat → FieldType := fun k => match k with
  | 0 => .object "SleepWard$Ward"
  | 1 => .object "SleepWard$Ward"
  | 2 => .object "SleepWard$Ward"
  | 3 => .boolean
  | 4 => .object "SleepWard$Text"
  | 5 => .array (.object "SleepWard$Sheet")
  | 6 => .array .int
  | 7 => .array .long
  | 8 => .array .long
  | 9 => .array .int
  | _ => .int
abbrev wsX40 : List Cond := u_ws RX4 TX4 11
theorem nmX4 : ∀ a, a < 11 → ∀ b, b < 11 → a ≠ b → (TX4 a).2.1 ≠ (TX4 b).2.1 := by decide +kernel
theorem tyX4_ok : ∀ k, k < 11 → parseFieldDescriptor (TX4 k).2.2.1 = some (tyX4 k) := by decide +kernel
abbrev cX4_init : ByteArray := prog_1_method_1_code
def yX4_init : MethodName := ⟨RX4, "<init>", "()V"⟩
abbrev cX4_door : ByteArray := prog_1_method_2_code
def yX4_door : MethodName := ⟨RX4, "door", "(IIZ)I"⟩
abbrev cX4_isOpen : ByteArray := prog_1_method_3_code
def yX4_isOpen : MethodName := ⟨RX4, "isOpen", "(II)I"⟩
abbrev cX4_height : ByteArray := prog_1_method_4_code
def yX4_height : MethodName := ⟨RX4, "height", "(II)I"⟩
abbrev cX4_mark : ByteArray := prog_1_method_5_code
def yX4_mark : MethodName := ⟨RX4, "mark", "(IIZ)I"⟩
abbrev cX4_squareOf : ByteArray := prog_1_method_6_code
def yX4_squareOf : MethodName := ⟨RX4, "squareOf", "(II)I"⟩
abbrev cX4_moon : ByteArray := prog_1_method_7_code
def yX4_moon : MethodName := ⟨RX4, "moon", "(I)I"⟩
abbrev cX4_round : ByteArray := prog_1_method_8_code
def yX4_round : MethodName := ⟨RX4, "round", "(I)I"⟩
abbrev cX4_rest : ByteArray := prog_1_method_9_code
def yX4_rest : MethodName := ⟨RX4, "rest", "()I"⟩
abbrev cX4_walker : ByteArray := prog_1_method_10_code
def yX4_walker : MethodName := ⟨RX4, "walker", "(III)I"⟩
abbrev cX4_of : ByteArray := prog_1_method_11_code
def yX4_of : MethodName := ⟨RX4, "of", "(II)I"⟩
abbrev cX4_set : ByteArray := prog_1_method_12_code
def yX4_set : MethodName := ⟨RX4, "set", "(III)I"⟩
abbrev cX4_wake : ByteArray := prog_1_method_13_code
def yX4_wake : MethodName := ⟨RX4, "wake", "(IZ)I"⟩
abbrev cX4_turn : ByteArray := prog_1_method_14_code
def yX4_turn : MethodName := ⟨RX4, "turn", "(II)I"⟩
abbrev cX4_as : ByteArray := prog_1_method_15_code
def yX4_as : MethodName := ⟨RX4, "as", "(II)I"⟩
abbrev cX4_step : ByteArray := prog_1_method_16_code
def yX4_step : MethodName := ⟨RX4, "step", "(I)I"⟩
abbrev cX4_minutes : ByteArray := prog_1_method_17_code
def yX4_minutes : MethodName := ⟨RX4, "minutes", "(I)I"⟩
abbrev cX4_bed : ByteArray := prog_1_method_18_code
def yX4_bed : MethodName := ⟨RX4, "bed", "()I"⟩
abbrev cX4_seed : ByteArray := prog_1_method_19_code
def yX4_seed : MethodName := ⟨RX4, "seed", "(I)I"⟩
abbrev cX4_now : ByteArray := prog_1_method_20_code
def yX4_now : MethodName := ⟨RX4, "now", "(I)I"⟩
abbrev cX4_on : ByteArray := prog_1_method_21_code
def yX4_on : MethodName := ⟨RX4, "on", "(II)I"⟩
abbrev cX4_river : ByteArray := prog_1_method_22_code
def yX4_river : MethodName := ⟨RX4, "river", "(I)I"⟩
abbrev cX4_meet : ByteArray := prog_1_method_23_code
def yX4_meet : MethodName := ⟨RX4, "meet", "(II)I"⟩
abbrev cX4_home : ByteArray := prog_1_method_24_code
def yX4_home : MethodName := ⟨RX4, "home", "(I)I"⟩
abbrev cX4_safe : ByteArray := prog_1_method_25_code
def yX4_safe : MethodName := ⟨RX4, "safe", "(I)I"⟩
abbrev cX4_barred : ByteArray := prog_1_method_26_code
def yX4_barred : MethodName := ⟨RX4, "barred", "(II)I"⟩
abbrev cX4_lamp : ByteArray := prog_1_method_27_code
def yX4_lamp : MethodName := ⟨RX4, "lamp", "(I)I"⟩
abbrev cX4_watch : ByteArray := prog_1_method_28_code
def yX4_watch : MethodName := ⟨RX4, "watch", "(I)I"⟩
abbrev cX4_loop : ByteArray := prog_1_method_29_code
def yX4_loop : MethodName := ⟨RX4, "loop", "(I)I"⟩
abbrev cX4_odds : ByteArray := prog_1_method_30_code
def yX4_odds : MethodName := ⟨RX4, "odds", "(III)J"⟩
abbrev cX4_likeliest : ByteArray := prog_1_method_31_code
def yX4_likeliest : MethodName := ⟨RX4, "likeliest", "(II)I"⟩
abbrev cX4_feed : ByteArray := prog_1_method_32_code
def yX4_feed : MethodName := ⟨RX4, "feed", "(II)I"⟩
abbrev cX4_wipe : ByteArray := prog_1_method_33_code
def yX4_wipe : MethodName := ⟨RX4, "wipe", "()I"⟩
abbrev cX4_ward : ByteArray := prog_1_method_34_code
def yX4_ward : MethodName := ⟨RX4, "ward", "()I"⟩
abbrev cX4_sheet : ByteArray := prog_1_method_35_code
def yX4_sheet : MethodName := ⟨RX4, "sheet", "(III)I"⟩
abbrev cX4_write : ByteArray := prog_1_method_36_code
def yX4_write : MethodName := ⟨RX4, "write", "(IIJ)J"⟩
abbrev cX4_copy : ByteArray := prog_1_method_37_code
def yX4_copy : MethodName := ⟨RX4, "copy", "(IIIII)I"⟩
abbrev cX4_lays : ByteArray := prog_1_method_38_code
def yX4_lays : MethodName := ⟨RX4, "lays", "(I)I"⟩
abbrev cX4_track : ByteArray := prog_1_method_39_code
def yX4_track : MethodName := ⟨RX4, "track", "(II)I"⟩
abbrev cX4_whose : ByteArray := prog_1_method_40_code
def yX4_whose : MethodName := ⟨RX4, "whose", "(I)I"⟩
abbrev cX4_image : ByteArray := prog_1_method_41_code
def yX4_image : MethodName := ⟨RX4, "image", "()I"⟩
abbrev cX4_undo : ByteArray := prog_1_method_42_code
def yX4_undo : MethodName := ⟨RX4, "undo", "()I"⟩
abbrev cX4_tear : ByteArray := prog_1_method_43_code
def yX4_tear : MethodName := ⟨RX4, "tear", "()I"⟩
abbrev cX4_count : ByteArray := prog_1_method_44_code
def yX4_count : MethodName := ⟨RX4, "count", "(I)I"⟩
abbrev cX4_status : ByteArray := prog_1_method_45_code
def yX4_status : MethodName := ⟨RX4, "status", "(I)I"⟩
abbrev cX4_tell : ByteArray := prog_1_method_46_code
def yX4_tell : MethodName := ⟨RX4, "tell", "(I)I"⟩
abbrev cX4_isWithin : ByteArray := prog_1_method_47_code
def yX4_isWithin : MethodName := ⟨RX4, "isWithin", "(III)Z"⟩
abbrev cX4_isSquare : ByteArray := prog_1_method_48_code
def yX4_isSquare : MethodName := ⟨RX4, "isSquare", "(I)Z"⟩
abbrev cX4_isWay : ByteArray := prog_1_method_49_code
def yX4_isWay : MethodName := ⟨RX4, "isWay", "(I)Z"⟩
abbrev cX4_isKind : ByteArray := prog_1_method_50_code
def yX4_isKind : MethodName := ⟨RX4, "isKind", "(I)Z"⟩
abbrev cX4_isSheet : ByteArray := prog_1_method_51_code
def yX4_isSheet : MethodName := ⟨RX4, "isSheet", "(I)Z"⟩
abbrev cX4_isWalker : ByteArray := prog_1_method_52_code
def yX4_isWalker : MethodName := ⟨RX4, "isWalker", "(I)Z"⟩
abbrev cX4_isTooLate : ByteArray := prog_1_method_53_code
def yX4_isTooLate : MethodName := ⟨RX4, "isTooLate", "(I)Z"⟩
abbrev cX4_isUnder : ByteArray := prog_1_method_54_code
def yX4_isUnder : MethodName := ⟨RX4, "isUnder", "(II)Z"⟩
abbrev cX4_isSafe : ByteArray := prog_1_method_55_code
def yX4_isSafe : MethodName := ⟨RX4, "isSafe", "(JI)Z"⟩
abbrev cX4_findBanks : ByteArray := prog_1_method_56_code
def yX4_findBanks : MethodName := ⟨RX4, "findBanks", "()I"⟩
abbrev cX4_leastBars : ByteArray := prog_1_method_57_code
def yX4_leastBars : MethodName := ⟨RX4, "leastBars", "(II)I"⟩
abbrev cX4_doorsOf : ByteArray := prog_1_method_58_code
def yX4_doorsOf : MethodName := ⟨RX4, "doorsOf", "(II)J"⟩
abbrev cX4_placesWithLamps : ByteArray := prog_1_method_59_code
def yX4_placesWithLamps : MethodName := ⟨RX4, "placesWithLamps", "(II)J"⟩
abbrev cX4_countOthers : ByteArray := prog_1_method_60_code
def yX4_countOthers : MethodName := ⟨RX4, "countOthers", "(JJ)I"⟩
abbrev cX4_spreadOdds : ByteArray := prog_1_method_61_code
def yX4_spreadOdds : MethodName := ⟨RX4, "spreadOdds", "(II)V"⟩
abbrev cX4_spreadFrom : ByteArray := prog_1_method_62_code
def yX4_spreadFrom : MethodName := ⟨RX4, "spreadFrom", "(I)V"⟩
def RX5 : String := "SleepWardModel"
def TX5 : u_T := fun k => match k with
  | 0 => ("SleepWardModel", "s", "[I", true)
  | 1 => ("SleepWardModel", "kept", "[I", true)
  | 2 => ("SleepWardModel", "aside", "[I", true)
  | 3 => ("SleepWardModel", "before", "[I", true)
  | 4 => ("SleepWardModel", "isKept", "Z", false)
  | 5 => ("SleepWardModel", "findings", "[I", true)
  | 6 => ("SleepWardModel", "bank", "[I", true)
  | 7 => ("SleepWardModel", "places", "[I", true)
  | 8 => ("SleepWardModel", "parts", "[J", true)
  | 9 => ("SleepWardModel", "next", "[J", true)
  | 10 => ("SleepWardModel", "tape", "[I", true)
  | 11 => ("SleepWardModel", "taped", "I", false)
  | 12 => ("SleepWardModel", "here", "I", false)
  | 13 => ("SleepWardModel", "fault", "I", false)
  | 14 => ("SleepWardModel", "value", "I", false)
  | 15 => ("SleepWardModel", "bits", "[I", true)
  | 16 => ("SleepWardModel", "longs", "[I", true)
  | 17 => ("SleepWardModel", "cells", "[J", true)
  | _ => ("SleepWardModel", "between", "[J", true)
def tyX5 : Nat → FieldType := fun k => match k with
  | 0 => .array .int
  | 1 => .array .int
  | 2 => .array .int
  | 3 => .array .int
  | 4 => .boolean
  | 5 => .array .int
  | 6 => .array .int
  | 7 => .array .int
  | 8 => .array .long
  | 9 => .array .long
  | 10 => .array .int
  | 11 => .int
  | 12 => .int
  | 13 => .int
  | 14 => .int
  | 15 => .array .int
  | 16 => .array .int
  | 17 => .array .long
  | _ => .array .long
abbrev wsX50 : List Cond := u_ws RX5 TX5 19
theorem nmX5 : ∀ a, a < 19 → ∀ b, b < 19 → a ≠ b → (TX5 a).2.1 ≠ (TX5 b).2.1 := by decide +kernel
theorem tyX5_ok : ∀ k, k < 19 → parseFieldDescriptor (TX5 k).2.2.1 = some (tyX5 k) := by decide +kernel
abbrev cX5_init : ByteArray := prog_7_method_1_code
def yX5_init : MethodName := ⟨RX5, "<init>", "()V"⟩
abbrev cX5_in : ByteArray := prog_7_method_2_code
def yX5_in : MethodName := ⟨RX5, "in", "(III)Z"⟩
abbrev cX5_no : ByteArray := prog_7_method_3_code
def yX5_no : MethodName := ⟨RX5, "no", "(I)I"⟩
abbrev cX5_lay : ByteArray := prog_7_method_4_code
def yX5_lay : MethodName := ⟨RX5, "lay", "([I[I)V"⟩
abbrev cX5_draw : ByteArray := prog_7_method_5_code
def yX5_draw : MethodName := ⟨RX5, "draw", "()I"⟩
abbrev cX5_isSquare : ByteArray := prog_7_method_6_code
def yX5_isSquare : MethodName := ⟨RX5, "isSquare", "(I)Z"⟩
abbrev cX5_isWay : ByteArray := prog_7_method_7_code
def yX5_isWay : MethodName := ⟨RX5, "isWay", "(I)Z"⟩
abbrev cX5_isWalker : ByteArray := prog_7_method_8_code
def yX5_isWalker : MethodName := ⟨RX5, "isWalker", "(I)Z"⟩
abbrev cX5_has : ByteArray := prog_7_method_9_code
def yX5_has : MethodName := ⟨RX5, "has", "(II)I"⟩
abbrev cX5_gets : ByteArray := prog_7_method_10_code
def yX5_gets : MethodName := ⟨RX5, "gets", "(III)I"⟩
abbrev cX5_puts : ByteArray := prog_7_method_11_code
def yX5_puts : MethodName := ⟨RX5, "puts", "(II)I"⟩
abbrev cX5_beside : ByteArray := prog_7_method_12_code
def yX5_beside : MethodName := ⟨RX5, "beside", "(II)I"⟩
abbrev cX5_doorAt : ByteArray := prog_7_method_13_code
def yX5_doorAt : MethodName := ⟨RX5, "doorAt", "(II)I"⟩
abbrev cX5_wayTo : ByteArray := prog_7_method_14_code
def yX5_wayTo : MethodName := ⟨RX5, "wayTo", "(II)I"⟩
abbrev cX5_may : ByteArray := prog_7_method_15_code
def yX5_may : MethodName := ⟨RX5, "may", "(II)Z"⟩
abbrev cX5_doorOf : ByteArray := prog_7_method_16_code
def yX5_doorOf : MethodName := ⟨RX5, "doorOf", "(II)I"⟩
abbrev cX5_door : ByteArray := prog_7_method_17_code
def yX5_door : MethodName := ⟨RX5, "door", "(IIZ)I"⟩
abbrev cX5_isOpen : ByteArray := prog_7_method_18_code
def yX5_isOpen : MethodName := ⟨RX5, "isOpen", "(II)I"⟩
abbrev cX5_height : ByteArray := prog_7_method_19_code
def yX5_height : MethodName := ⟨RX5, "height", "(II)I"⟩
abbrev cX5_mark : ByteArray := prog_7_method_20_code
def yX5_mark : MethodName := ⟨RX5, "mark", "(IIZ)I"⟩
abbrev cX5_walkersAt : ByteArray := prog_7_method_21_code
def yX5_walkersAt : MethodName := ⟨RX5, "walkersAt", "(I)I"⟩
abbrev cX5_squareOf : ByteArray := prog_7_method_22_code
def yX5_squareOf : MethodName := ⟨RX5, "squareOf", "(II)I"⟩
abbrev cX5_moon : ByteArray := prog_7_method_23_code
def yX5_moon : MethodName := ⟨RX5, "moon", "(I)I"⟩
abbrev cX5_round : ByteArray := prog_7_method_24_code
def yX5_round : MethodName := ⟨RX5, "round", "(I)I"⟩
abbrev cX5_rest : ByteArray := prog_7_method_25_code
def yX5_rest : MethodName := ⟨RX5, "rest", "()I"⟩
abbrev cX5_isKind : ByteArray := prog_7_method_26_code
def yX5_isKind : MethodName := ⟨RX5, "isKind", "(I)Z"⟩
abbrev cX5_adds : ByteArray := prog_7_method_27_code
def yX5_adds : MethodName := ⟨RX5, "adds", "(III)V"⟩
abbrev cX5_walker : ByteArray := prog_7_method_28_code
def yX5_walker : MethodName := ⟨RX5, "walker", "(III)I"⟩
abbrev cX5_waysFrom : ByteArray := prog_7_method_29_code
def yX5_waysFrom : MethodName := ⟨RX5, "waysFrom", "(I)I"⟩
abbrev cX5_of : ByteArray := prog_7_method_30_code
def yX5_of : MethodName := ⟨RX5, "of", "(II)I"⟩
abbrev cX5_set : ByteArray := prog_7_method_31_code
def yX5_set : MethodName := ⟨RX5, "set", "(III)I"⟩
abbrev cX5_wake : ByteArray := prog_7_method_32_code
def yX5_wake : MethodName := ⟨RX5, "wake", "(IZ)I"⟩
abbrev cX5_turn : ByteArray := prog_7_method_33_code
def yX5_turn : MethodName := ⟨RX5, "turn", "(II)I"⟩
abbrev cX5_isUnder : ByteArray := prog_7_method_34_code
def yX5_isUnder : MethodName := ⟨RX5, "isUnder", "(II)Z"⟩
abbrev cX5_as : ByteArray := prog_7_method_35_code
def yX5_as : MethodName := ⟨RX5, "as", "(II)I"⟩
abbrev cX5_turned : ByteArray := prog_7_method_36_code
def yX5_turned : MethodName := ⟨RX5, "turned", "(IIZ)I"⟩
abbrev cX5_lampStep : ByteArray := prog_7_method_37_code
def yX5_lampStep : MethodName := ⟨RX5, "lampStep", "(II)I"⟩
abbrev cX5_slopeStep : ByteArray := prog_7_method_38_code
def yX5_slopeStep : MethodName := ⟨RX5, "slopeStep", "(II)I"⟩
abbrev cX5_ones : ByteArray := prog_7_method_39_code
def yX5_ones : MethodName := ⟨RX5, "ones", "(I)I"⟩
abbrev cX5_wanderStep : ByteArray := prog_7_method_40_code
def yX5_wanderStep : MethodName := ⟨RX5, "wanderStep", "(I)I"⟩
abbrev cX5_stepOf : ByteArray := prog_7_method_41_code
def yX5_stepOf : MethodName := ⟨RX5, "stepOf", "(I)I"⟩
abbrev cX5_step : ByteArray := prog_7_method_42_code
def yX5_step : MethodName := ⟨RX5, "step", "(I)I"⟩
abbrev cX5_isIn : ByteArray := prog_7_method_43_code
def yX5_isIn : MethodName := ⟨RX5, "isIn", "(I)Z"⟩
abbrev cX5_goes : ByteArray := prog_7_method_44_code
def yX5_goes : MethodName := ⟨RX5, "goes", "(I)Z"⟩
abbrev cX5_minute : ByteArray := prog_7_method_45_code
def yX5_minute : MethodName := ⟨RX5, "minute", "()V"⟩
abbrev cX5_go : ByteArray := prog_7_method_46_code
def yX5_go : MethodName := ⟨RX5, "go", "(I)V"⟩
abbrev cX5_inRiver : ByteArray := prog_7_method_47_code
def yX5_inRiver : MethodName := ⟨RX5, "inRiver", "()I"⟩
abbrev cX5_isLate : ByteArray := prog_7_method_48_code
def yX5_isLate : MethodName := ⟨RX5, "isLate", "(I)Z"⟩
abbrev cX5_minutes : ByteArray := prog_7_method_49_code
def yX5_minutes : MethodName := ⟨RX5, "minutes", "(I)I"⟩
abbrev cX5_homeMany : ByteArray := prog_7_method_50_code
def yX5_homeMany : MethodName := ⟨RX5, "homeMany", "()I"⟩
abbrev cX5_bed : ByteArray := prog_7_method_51_code
def yX5_bed : MethodName := ⟨RX5, "bed", "()I"⟩
abbrev cX5_seed : ByteArray := prog_7_method_52_code
def yX5_seed : MethodName := ⟨RX5, "seed", "(I)I"⟩
abbrev cX5_awake : ByteArray := prog_7_method_53_code
def yX5_awake : MethodName := ⟨RX5, "awake", "()I"⟩
abbrev cX5_now : ByteArray := prog_7_method_54_code
def yX5_now : MethodName := ⟨RX5, "now", "(I)I"⟩
abbrev cX5_on : ByteArray := prog_7_method_55_code
def yX5_on : MethodName := ⟨RX5, "on", "(II)I"⟩
abbrev cX5_is : ByteArray := prog_7_method_56_code
def yX5_is : MethodName := ⟨RX5, "is", "(III)Z"⟩
abbrev cX5_soonest : ByteArray := prog_7_method_57_code
def yX5_soonest : MethodName := ⟨RX5, "soonest", "(III)I"⟩
abbrev cX5_river : ByteArray := prog_7_method_58_code
def yX5_river : MethodName := ⟨RX5, "river", "(I)I"⟩
abbrev cX5_meet : ByteArray := prog_7_method_59_code
def yX5_meet : MethodName := ⟨RX5, "meet", "(II)I"⟩
abbrev cX5_home : ByteArray := prog_7_method_60_code
def yX5_home : MethodName := ⟨RX5, "home", "(I)I"⟩
abbrev cX5_isSafe : ByteArray := prog_7_method_61_code
def yX5_isSafe : MethodName := ⟨RX5, "isSafe", "(I)Z"⟩
abbrev cX5_safe : ByteArray := prog_7_method_62_code
def yX5_safe : MethodName := ⟨RX5, "safe", "(I)I"⟩
abbrev cX5_banks : ByteArray := prog_7_method_63_code
def yX5_banks : MethodName := ⟨RX5, "banks", "()I"⟩
abbrev cX5_isSafeBy : ByteArray := prog_7_method_64_code
def yX5_isSafeBy : MethodName := ⟨RX5, "isSafeBy", "(III)Z"⟩
abbrev cX5_barred : ByteArray := prog_7_method_65_code
def yX5_barred : MethodName := ⟨RX5, "barred", "(II)I"⟩
abbrev cX5_lamp : ByteArray := prog_7_method_66_code
def yX5_lamp : MethodName := ⟨RX5, "lamp", "(I)I"⟩
abbrev cX5_watch : ByteArray := prog_7_method_67_code
def yX5_watch : MethodName := ⟨RX5, "watch", "(I)I"⟩
abbrev cX5_loop : ByteArray := prog_7_method_68_code
def yX5_loop : MethodName := ⟨RX5, "loop", "(I)I"⟩
abbrev cX5_spreads : ByteArray := prog_7_method_69_code
def yX5_spreads : MethodName := ⟨RX5, "spreads", "(II)V"⟩
abbrev cX5_odds : ByteArray := prog_7_method_70_code
def yX5_odds : MethodName := ⟨RX5, "odds", "(III)J"⟩
abbrev cX5_likeliest : ByteArray := prog_7_method_71_code
def yX5_likeliest : MethodName := ⟨RX5, "likeliest", "(II)I"⟩
abbrev cX5_feed : ByteArray := prog_7_method_72_code
def yX5_feed : MethodName := ⟨RX5, "feed", "(II)I"⟩
abbrev cX5_wipe : ByteArray := prog_7_method_73_code
def yX5_wipe : MethodName := ⟨RX5, "wipe", "()I"⟩
abbrev cX5_byteAt : ByteArray := prog_7_method_74_code
def yX5_byteAt : MethodName := ⟨RX5, "byteAt", "(I)I"⟩
abbrev cX5_blanks : ByteArray := prog_7_method_75_code
def yX5_blanks : MethodName := ⟨RX5, "blanks", "()V"⟩
abbrev cX5_fails : ByteArray := prog_7_method_76_code
def yX5_fails : MethodName := ⟨RX5, "fails", "()Z"⟩
abbrev cX5_isLetter : ByteArray := prog_7_method_77_code
def yX5_isLetter : MethodName := ⟨RX5, "isLetter", "(I)Z"⟩
abbrev cX5_isDigit : ByteArray := prog_7_method_78_code
def yX5_isDigit : MethodName := ⟨RX5, "isDigit", "(I)Z"⟩
abbrev cX5_wordEnd : ByteArray := prog_7_method_79_code
def yX5_wordEnd : MethodName := ⟨RX5, "wordEnd", "()I"⟩
abbrev cX5_isWord : ByteArray := prog_7_method_80_code
def yX5_isWord : MethodName := ⟨RX5, "isWord", "(Ljava/lang/String;)Z"⟩
abbrev cX5_may_ : ByteArray := prog_7_method_81_code
def yX5_may_ : MethodName := ⟨RX5, "may", "(Ljava/lang/String;)Z"⟩
abbrev cX5_must : ByteArray := prog_7_method_82_code
def yX5_must : MethodName := ⟨RX5, "must", "(Ljava/lang/String;)Z"⟩
abbrev cX5_number : ByteArray := prog_7_method_83_code
def yX5_number : MethodName := ⟨RX5, "number", "(II)Z"⟩
abbrev cX5_isNumber : ByteArray := prog_7_method_84_code
def yX5_isNumber : MethodName := ⟨RX5, "isNumber", "()Z"⟩
abbrev cX5_kindName : ByteArray := prog_7_method_85_code
def yX5_kindName : MethodName := ⟨RX5, "kindName", "(I)Ljava/lang/String;"⟩
abbrev cX5_doorTold : ByteArray := prog_7_method_86_code
def yX5_doorTold : MethodName := ⟨RX5, "doorTold", "(I)Z"⟩
abbrev cX5_heightTold : ByteArray := prog_7_method_87_code
def yX5_heightTold : MethodName := ⟨RX5, "heightTold", "()Z"⟩
abbrev cX5_markTold : ByteArray := prog_7_method_88_code
def yX5_markTold : MethodName := ⟨RX5, "markTold", "(II)Z"⟩
abbrev cX5_walkerTold : ByteArray := prog_7_method_89_code
def yX5_walkerTold : MethodName := ⟨RX5, "walkerTold", "(I)Z"⟩
abbrev cX5_roundsTold : ByteArray := prog_7_method_90_code
def yX5_roundsTold : MethodName := ⟨RX5, "roundsTold", "()Z"⟩
abbrev cX5_item : ByteArray := prog_7_method_91_code
def yX5_item : MethodName := ⟨RX5, "item", "()Z"⟩
abbrev cX5_ward : ByteArray := prog_7_method_92_code
def yX5_ward : MethodName := ⟨RX5, "ward", "()I"⟩
abbrev cX5_isSheet : ByteArray := prog_7_method_93_code
def yX5_isSheet : MethodName := ⟨RX5, "isSheet", "(I)Z"⟩
abbrev cX5_sheet : ByteArray := prog_7_method_94_code
def yX5_sheet : MethodName := ⟨RX5, "sheet", "(III)I"⟩
abbrev cX5_writes : ByteArray := prog_7_method_95_code
def yX5_writes : MethodName := ⟨RX5, "writes", "(IIJ)V"⟩
abbrev cX5_write : ByteArray := prog_7_method_96_code
def yX5_write : MethodName := ⟨RX5, "write", "(IIJ)J"⟩
abbrev cX5_copy : ByteArray := prog_7_method_97_code
def yX5_copy : MethodName := ⟨RX5, "copy", "(IIIII)I"⟩
abbrev cX5_lays : ByteArray := prog_7_method_98_code
def yX5_lays : MethodName := ⟨RX5, "lays", "(I)I"⟩
abbrev cX5_track : ByteArray := prog_7_method_99_code
def yX5_track : MethodName := ⟨RX5, "track", "(II)I"⟩
abbrev cX5_whose : ByteArray := prog_7_method_100_code
def yX5_whose : MethodName := ⟨RX5, "whose", "(I)I"⟩
abbrev cX5_image : ByteArray := prog_7_method_101_code
def yX5_image : MethodName := ⟨RX5, "image", "()I"⟩
abbrev cX5_undo : ByteArray := prog_7_method_102_code
def yX5_undo : MethodName := ⟨RX5, "undo", "()I"⟩
abbrev cX5_tear : ByteArray := prog_7_method_103_code
def yX5_tear : MethodName := ⟨RX5, "tear", "()I"⟩
abbrev cX5_sumOf : ByteArray := prog_7_method_104_code
def yX5_sumOf : MethodName := ⟨RX5, "sumOf", "(II)I"⟩
abbrev cX5_count : ByteArray := prog_7_method_105_code
def yX5_count : MethodName := ⟨RX5, "count", "(I)I"⟩
abbrev cX5_status : ByteArray := prog_7_method_106_code
def yX5_status : MethodName := ⟨RX5, "status", "(I)I"⟩
def RJ6 : String := "java/lang/Integer"
def TJ6 : u_T := fun k => match k with
  | _ => ("", "", "", false)
def tyJ6 : Nat → FieldType := fun k => match k with
  | _ => .int
abbrev cJ6_bitCount_0f7a4 : ByteArray := prog_8_method_49_code
def yJ6_bitCount_0f7a4 : MethodName := ⟨RJ6, "bitCount", "(I)I"⟩
def RJ13 : String := "java/lang/Long"
def TJ13 : u_T := fun k => match k with
  | _ => ("", "", "", false)
def tyJ13 : Nat → FieldType := fun k => match k with
  | _ => .int
abbrev cJ13_bitCount_95d88 : ByteArray := prog_9_method_50_code
def yJ13_bitCount_95d88 : MethodName := ⟨RJ13, "bitCount", "(J)I"⟩
def RJ9 : String := "java/lang/Math"
def TJ9 : u_T := fun k => match k with
  | _ => ("", "", "", false)
def tyJ9 : Nat → FieldType := fun k => match k with
  | _ => .int
abbrev cJ9_max_7cf53 : ByteArray := prog_10_method_65_code
def yJ9_max_7cf53 : MethodName := ⟨RJ9, "max", "(II)I"⟩
abbrev cJ9_min_7cf53 : ByteArray := prog_10_method_69_code
def yJ9_min_7cf53 : MethodName := ⟨RJ9, "min", "(II)I"⟩
abbrev cJ9_min_f86c9 : ByteArray := prog_10_method_70_code
def yJ9_min_f86c9 : MethodName := ⟨RJ9, "min", "(JJ)J"⟩
def RJ0 : String := "java/lang/String"
def TJ0 : u_T := fun k => match k with
  | _ => ("", "", "", false)
def tyJ0 : Nat → FieldType := fun k => match k with
  | _ => .int
abbrev cJ0_length_8abf5 : ByteArray := prog_11_method_54_code
def yJ0_length_8abf5 : MethodName := ⟨RJ0, "length", "()I"⟩
abbrev cJ0_charAt_5068e : ByteArray := prog_11_method_56_code
def yJ0_charAt_5068e : MethodName := ⟨RJ0, "charAt", "(I)C"⟩
abbrev cJ0_coder_7d493 : ByteArray := prog_11_method_152_code
def yJ0_coder_7d493 : MethodName := ⟨RJ0, "coder", "()B"⟩
abbrev cJ0_isLatin1_aae02 : ByteArray := prog_11_method_154_code
def yJ0_isLatin1_aae02 : MethodName := ⟨RJ0, "isLatin1", "()Z"⟩
abbrev cJ0_checkIndex_df160 : ByteArray := prog_11_method_155_code
def yJ0_checkIndex_df160 : MethodName := ⟨RJ0, "checkIndex", "(II)V"⟩
def RJ1 : String := "java/lang/StringLatin1"
def TJ1 : u_T := fun k => match k with
  | _ => ("", "", "", false)
def tyJ1 : Nat → FieldType := fun k => match k with
  | _ => .int
abbrev cJ1_charAt_3b067 : ByteArray := prog_12_method_2_code
def yJ1_charAt_3b067 : MethodName := ⟨RJ1, "charAt", "([BI)C"⟩
def RJ2 : String := "java/lang/StringUTF16"
def TJ2 : u_T := fun k => match k with
  | _ => ("", "", "", false)
def tyJ2 : Nat → FieldType := fun k => match k with
  | _ => .int
abbrev cJ2_getChar_3b067 : ByteArray := prog_13_method_5_code
def yJ2_getChar_3b067 : MethodName := ⟨RJ2, "getChar", "([BI)C"⟩
abbrev cJ2_length_9d52b : ByteArray := prog_13_method_6_code
def yJ2_length_9d52b : MethodName := ⟨RJ2, "length", "([B)I"⟩
abbrev cJ2_charAt_3b067 : ByteArray := prog_13_method_83_code
def yJ2_charAt_3b067 : MethodName := ⟨RJ2, "charAt", "([BI)C"⟩
abbrev cJ2_checkIndex_2214a : ByteArray := prog_13_method_91_code
def yJ2_checkIndex_2214a : MethodName := ⟨RJ2, "checkIndex", "(I[B)V"⟩
def RJ10 : String := "java/lang/System"
def TJ10 : u_T := fun k => match k with
  | _ => ("", "", "", false)
def tyJ10 : Nat → FieldType := fun k => match k with
  | _ => .int
def RJ7 : String := "java/util/Arrays"
def TJ7 : u_T := fun k => match k with
  | _ => ("", "", "", false)
def tyJ7 : Nat → FieldType := fun k => match k with
  | _ => .int
abbrev cJ7_fill_d0a16 : ByteArray := prog_15_method_101_code
def yJ7_fill_d0a16 : MethodName := ⟨RJ7, "fill", "([JJ)V"⟩
abbrev cJ7_fill_53178 : ByteArray := prog_15_method_103_code
def yJ7_fill_53178 : MethodName := ⟨RJ7, "fill", "([II)V"⟩
def RJ3 : String := "jdk/internal/util/Preconditions"
def TJ3 : u_T := fun k => match k with
  | _ => ("", "", "", false)
def tyJ3 : Nat → FieldType := fun k => match k with
  | _ => .int
abbrev cJ3_checkIndex_8e157 : ByteArray := prog_16_method_11_code
def yJ3_checkIndex_8e157 : MethodName := ⟨RJ3, "checkIndex", "(IILjava/util/function/BiFunction;)I"⟩
def RL : String := "SleepWardLaw"
abbrev cL_law : ByteArray := code
def yL_law : MethodName := ⟨RL, "law", "([I)Z"⟩
abbrev vwCl : List vw_C := [(RX0, TX0, 3), (RX1, TX1, 7), (RX2, TX2, 5), (RX3, TX3, 13), (RX4, TX4, 11), (RX5, TX5, 19)]
/-- the words that every method may use: those of the tables that stay good in a callee -/
def Gw : List Cond := lw_tbl.filter goodWord
end
section
/-! the abstract machine: values, heap, shapes -/
abbrev AV : Type := Int32 ⊕ (Int64 ⊕ ((Nat × Nat) ⊕ Nat))
abbrev HP : Type := (Nat → Nat → Int32) × (Nat → Nat → Int64)
abbrev LV : Type := List (Nat × AV)
abbrev QP : Type := Option AV → HP → Prop
abbrev SP : Type := List AV → HP → QP → Prop
abbrev GP : Type := Nat → LV → List AV → HP → Prop
abbrev vI (x : Int32) : AV := .inl x
abbrev vL (x : Int64) : AV := .inr (.inl x)
abbrev vR (k c : Nat) : AV := .inr (.inr (.inl (k, c)))
abbrev vX (n : Nat) : AV := .inr (.inr (.inr n))
def av_two : AV → Bool
  | .inr (.inl _) => true
  | _ => false
/-- a row of a cell is another one -/
def rI (hp : HP) (c : Nat) (f : Nat → Int32) : HP := (fun d => if d = c then f else hp.1 d, hp.2)
def rL (hp : HP) (c : Nat) (f : Nat → Int64) : HP := (hp.1, fun d => if d = c then f else hp.2 d)
def uI (hp : HP) (c k : Nat) (v : Int32) : HP := rI hp c (upd (hp.1 c) k v)
def uL (hp : HP) (c k : Nat) (v : Int64) : HP := rL hp c (vp_updL (hp.2 c) k v)
/-- shapes: an object (number of its class, its fields: 0 int, 1 long, 2 boolean, 3 the cell of a kind at a distance), an array (0 int, 1 long, 2 byte, 3, 4 references; length; kind and distance of what it holds) -/
def kd : Nat → (Nat × List (Nat × Nat × Nat)) ⊕ (Nat × Nat × Nat × Nat) := fun k => match k with
  | 0 => .inl (4, [(3, 1, 1), (3, 1, 13), (3, 1, 25), (2, 0, 0), (3, 3, 37), (3, 10, 39), (3, 12, 48), (3, 13, 49), (3, 13, 50), (3, 14, 51), (0, 0, 0)])
  | 1 => .inl (3, [(1, 0, 0), (3, 6, 1), (0, 0, 0), (0, 0, 0), (0, 0, 0), (0, 0, 0), (0, 0, 0), (0, 0, 0), (3, 7, 2), (0, 0, 0), (0, 0, 0), (3, 8, 3), (0, 0, 0)])
  | 2 => .inl (2, [(0, 0, 0), (0, 0, 0), (0, 0, 0), (0, 0, 0), (2, 0, 0)])
  | 3 => .inl (1, [(3, 9, 1), (0, 0, 0), (0, 0, 0), (0, 0, 0), (0, 0, 0), (0, 0, 0), (0, 0, 0)])
  | 4 => .inl (0, [(0, 0, 0), (0, 0, 0), (3, 11, 4)])
  | 5 => .inl (5, [(3, 15, 1), (3, 15, 2), (3, 15, 3), (3, 15, 4), (2, 0, 0), (3, 14, 5), (3, 16, 6), (3, 17, 7), (3, 13, 8), (3, 13, 9), (3, 18, 10), (0, 0, 0), (0, 0, 0), (0, 0, 0), (0, 0, 0), (3, 19, 11), (3, 19, 12), (3, 20, 13), (3, 11, 14)])
  | 6 => .inr (0, 25, 0, 0)
  | 7 => .inr (0, 12, 0, 0)
  | 8 => .inr (3, 8, 2, 1)
  | 9 => .inr (2, 120, 0, 0)
  | 10 => .inr (4, 4, 4, 1)
  | 11 => .inr (1, 40, 0, 0)
  | 12 => .inr (0, 40, 0, 0)
  | 13 => .inr (1, 25, 0, 0)
  | 14 => .inr (0, 7, 0, 0)
  | 15 => .inr (0, 184, 0, 0)
  | 16 => .inr (0, 50, 0, 0)
  | 17 => .inr (0, 8, 0, 0)
  | 18 => .inr (0, 120, 0, 0)
  | 19 => .inr (0, 4, 0, 0)
  | _ => .inr (1, 160, 0, 0)
def kcell : List Nat := [0, 1, 6, 7, 8, 2, 2, 2, 2, 2, 2, 2, 2, 1, 6, 7, 8, 2, 2, 2, 2, 2, 2, 2, 2, 1, 6, 7, 8, 2, 2, 2, 2, 2, 2, 2, 2, 3, 9, 10, 4, 4, 4, 4, 11, 11, 11, 11, 12, 13, 13, 14, 5, 15, 15, 15, 15, 14, 16, 17, 13, 13, 18, 19, 19, 20, 11]
def kc (c : Nat) : Nat := kcell.getD c 99
def vld : AV → Prop
  | .inr (.inr (.inl q)) => q.2 < 67 ∧ kc q.2 = q.1
  | _ => True
/-! lists that are looked up by number -/
def lk {α : Type} : List (Nat × α) → Nat → Option α
  | [], _ => none
  | q :: t, n => match Nat.beq q.1 n with
    | true => some q.2
    | false => lk t n
def lk2 {α : Type} : List (Nat × List (Nat × α)) → Nat → Option α
  | [], _ => none
  | q :: t, n => match Nat.ble q.1 n with
    | true => lk2 t n
    | false => lk q.2 n
def nth {α : Type} : List α → Nat → Option α
  | [], _ => none
  | a :: _, 0 => some a
  | _ :: t, n + 1 => nth t n
def lvd (i : Nat) (two : Bool) : LV → LV
  | [] => []
  | q :: t => match Nat.beq q.1 i || (Nat.beq (q.1 + 1) i && av_two q.2) || (two && Nat.beq q.1 (i + 1)) with
    | true => lvd i two t
    | false => q :: lvd i two t
def tk : Nat → List AV → List AV → Option (List AV × List AV)
  | 0, st, acc => some (acc, st)
  | _ + 1, [], _ => none
  | n + 1, v :: st, acc => tk n st (v :: acc)
def wid : List AV → Nat
  | [] => 0
  | v :: t => (match av_two v with
    | true => 2
    | false => 1) + wid t
def psh (v : Option AV) (r : List AV) : List AV := match v with
  | some a => a :: r
  | none => r
def pI (st : List AV) (k : Int32 → List AV → Prop) : Prop := match st with
  | .inl x :: r => k x r
  | _ => False
def pL (st : List AV) (k : Int64 → List AV → Prop) : Prop := match st with
  | .inr (.inl x) :: r => k x r
  | _ => False
def pV (st : List AV) (k : AV → List AV → Prop) : Prop := match st with
  | v :: r => k v r
  | _ => False
def pR (st : List AV) (k : Nat → Nat → List AV → Prop) : Prop := match st with
  | .inr (.inr (.inl q)) :: r => k q.1 q.2 r
  | _ => False
def pA (st : List AV) (k : Nat → Nat → List AV → Prop) (x : Nat → List AV → Prop) : Prop := match st with
  | .inr (.inr (.inl q)) :: r => k q.1 q.2 r
  | .inr (.inr (.inr n)) :: r => x n r
  | _ => False
def pN (st : List AV) (k : Prop) : Prop := match st with
  | [] => k
  | _ => False
/-- what the texts hold: 16 of them -/
def tx_s : List (List Int32) := [[119, 97, 108, 107, 101, 114], [115, 108, 111, 112, 101, 114], [108, 97, 109, 112, 101, 114], [104, 111, 109, 101, 114], [119, 97, 110, 100, 101, 114, 101, 114], [109, 111, 111, 110, 101, 114], [115, 104, 117, 116], [111, 112, 101, 110], [104, 101, 105, 103, 104, 116], [108, 97, 109, 112], [114, 105, 118, 101, 114], [100, 114, 121], [109, 111, 111, 110], [114, 111, 117, 110, 100, 115], [97, 116], [119, 97, 121]]
def tx_i (m : Nat) : Nat := m / 2 % 20
def tx_n (m : Nat) : Nat := (tx_s.getD (tx_i m) []).length
def tx_b (m j : Nat) : Int32 := (tx_s.getD (tx_i m) []).getD j 0
def kab (j : Nat) : Int32 := ([-1, 0, 0, 1, 0, 2] : List Int32).getD j 0
/-- an entry of a program: instruction, the next place, where it may jump -/
abbrev PE : Type := Instr × Nat × List Nat
abbrev PG : Type := List (Nat × List (Nat × PE))
/-- what a class links: fields (kind, number), ints, longs, texts and statics; fields of a text -/
abbrev LKS : Type := List (Nat × Nat × Nat) × List (Nat × Int32) × List (Nat × Int64) × List (Nat × AV) × List (Nat × Nat)
abbrev EN : Type := List (Nat × Bool × Nat × SP)
def tg1 (t : List Nat) (k : Nat → Prop) : Prop := match t with
  | [a] => k a
  | _ => False
def ld (lv : LV) (i : Nat) (k : AV → Prop) : Prop := match lk lv i with
  | some v => k v
  | none => False
def rtI (ret : Option FieldType) (v : Int32) (k : Prop) : Prop := match ret with
  | some .int => k
  | some .boolean => (v = 0 ∨ v = 1) ∧ k
  | some ty => narrow ty (.int v) = .int v ∧ k
  | none => False
def swt (x : Int32) (G : Nat → Prop) (lo hi : Int) (d : Nat) : List Nat → Int → Prop
  | [], _ => (x.toInt < lo ∨ hi < x.toInt) → G d
  | t :: ts, k => (x.toInt = k → G t) ∧ swt x G lo hi d ts (k + 1)
def gtf (hp : HP) (c j : Nat) (f : Nat × Nat × Nat) (k : AV → Prop) : Prop := match f.1 with
  | 0 => k (vI (hp.1 c j))
  | 1 => k (vL (hp.2 c j))
  | 2 => k (vI (hp.1 c j))
  | _ => k (vR f.2.1 (c + f.2.2))
def ptf (hp : HP) (c j : Nat) (f : Nat × Nat × Nat) (v : AV) (k : HP → Prop) : Prop := match f.1, v with
  | 0, .inl x => k (uI hp c j x)
  | 1, .inr (.inl x) => k (uL hp c j x)
  | 2, .inl x => (x = 0 ∨ x = 1) ∧ k (uI hp c j x)
  | _, _ => False
/-- the shape of a field that an instruction links, at a cell of a kind -/
def fsh (fl : List (Nat × Nat × Nat)) (idx k : Nat) (kk : Nat → (Nat × Nat × Nat) → Prop) : Prop := match lk fl idx with
  | some q => (match Nat.beq k q.1 with
    | true => (match kd k with
      | .inl o => (match nth o.2 q.2 with
        | some f => kk q.2 f
        | none => False)
      | .inr _ => False)
    | false => False)
  | none => False
def ash (k : Nat) (t : Nat) (kk : Nat → Prop) : Prop := match kd k with
  | .inr a => (match Nat.beq a.1 t with
    | true => kk a.2.1
    | false => False)
  | .inl _ => False
def arf (k : Nat) (kk : Nat → Nat → Nat → Prop) : Prop := match kd k with
  | .inr a => (match Nat.ble 3 a.1 with
    | true => kk a.2.1 a.2.2.1 a.2.2.2
    | false => False)
  | .inl _ => False
def aln (k : Nat) (kk : Nat → Prop) : Prop := match kd k with
  | .inr a => kk a.2.1
  | .inl _ => False
def cll (E : EN) (sta : Bool) (idx : Nat) (st : List AV) (hp : HP) (k : List AV → HP → Prop) : Prop := match lk E idx with
  | some q => (match (q.1 == sta) with
    | true => (match tk q.2.1 st [] with
      | some ar => (match Nat.ble (wid ar.2) 8 with
        | true => q.2.2 ar.1 hp (fun v hq => k (psh v ar.2) hq)
        | false => False)
      | none => False)
    | false => False)
  | none => False
def ldI (lv : LV) (i : Nat) (k : AV → Prop) : Prop := match lk lv i with
  | some (.inl x) => k (.inl x)
  | _ => False
def ldL (lv : LV) (i : Nat) (k : AV → Prop) : Prop := match lk lv i with
  | some (.inr (.inl x)) => k (.inr (.inl x))
  | _ => False
def ldA (lv : LV) (i : Nat) (k : AV → Prop) : Prop := match lk lv i with
  | some (.inr (.inr (.inl q))) => k (.inr (.inr (.inl q)))
  | some (.inr (.inr (.inr (n + 1)))) => k (.inr (.inr (.inr (n + 1))))
  | _ => False
def nb (a b : Nat) (k : Prop) : Prop := match Nat.ble (a + 1) b with
  | true => k
  | false => False
def one (v : AV) (k : Prop) : Prop := match av_two v with
  | false => k
  | true => False
def cst (d : Int) : Int32 := match d with
  | .ofNat k => nI k
  | .negSucc k => - nI (k + 1)
def adc (x : Int32) (d : Int) : Int32 := match d with
  | .ofNat k => x + nI k
  | .negSucc k => x - nI (k + 1)
def txok (m : Nat) : Prop := m % 2 = 0 ∧ (m < 32 ∨ 40 ≤ m ∧ m < 72)
def stI (K : LKS) (E : EN) (nL : Nat) (ret : Option FieldType) (sc : Option (Nat × (Nat → Int32))) (Q : QP) (G : GP) (i : Instr) (nx : Nat) (tg : List Nat) (lv : LV) (st : List AV) (hp : HP) : Prop :=
  match i with
  | .iload n => ldI lv n fun v => G nx lv (v :: st) hp
  | .iload_n n => ldI lv n.val fun v => G nx lv (v :: st) hp
  | .lload n => ldL lv n fun v => G nx lv (v :: st) hp
  | .lload_n n => ldL lv n.val fun v => G nx lv (v :: st) hp
  | .aload n => ldA lv n fun v => G nx lv (v :: st) hp
  | .aload_n n => ldA lv n.val fun v => G nx lv (v :: st) hp
  | .istore n => pI st fun x r => nb (n) nL (G nx ((n, vI x) :: lvd (n) false lv) r hp)
  | .istore_n n => pI st fun x r => nb (n.val) nL (G nx ((n.val, vI x) :: lvd (n.val) false lv) r hp)
  | .lstore n => pL st fun x r => nb (n + 1) nL (G nx ((n, vL x) :: lvd (n) true lv) r hp)
  | .lstore_n n => pL st fun x r => nb (n.val + 1) nL (G nx ((n.val, vL x) :: lvd (n.val) true lv) r hp)
  | .astore n => pA st (fun k c r => nb (n) nL (G nx ((n, vR k c) :: lvd (n) false lv) r hp)) (fun k r => match k with
    | k + 1 => nb (n) nL (G nx ((n, vX (k + 1)) :: lvd (n) false lv) r hp)
    | 0 => False)
  | .astore_n n => pA st (fun k c r => nb (n.val) nL (G nx ((n.val, vR k c) :: lvd (n.val) false lv) r hp)) (fun k r => match k with
    | k + 1 => nb (n.val) nL (G nx ((n.val, vX (k + 1)) :: lvd (n.val) false lv) r hp)
    | 0 => False)
  | .iinc n d => ldI lv n fun v => pI [v] fun x _ => nb n nL (G nx ((n, vI (adc x d)) :: lvd n false lv) st hp)
  | .iconst d => G nx lv (vI (cst d) :: st) hp
  | .bipush d => G nx lv (vI (cst d) :: st) hp
  | .sipush d => G nx lv (vI (cst d) :: st) hp
  | .lconst n => G nx lv (vL (lN n.val) :: st) hp
  | .ldc n => match lk K.2.1 n with
    | some x => G nx lv (vI x :: st) hp
    | none => (match lk K.2.2.2.1 n with
      | some v => G nx lv (v :: st) hp
      | none => False)
  | .ldc_w n => match lk K.2.1 n with
    | some x => G nx lv (vI x :: st) hp
    | none => (match lk K.2.2.2.1 n with
      | some v => G nx lv (v :: st) hp
      | none => False)
  | .ldc2_w n => match lk K.2.2.1 n with
    | some x => G nx lv (vL x :: st) hp
    | none => False
  | .getstatic n => match lk K.2.2.2.1 n with
    | some v => G nx lv (v :: st) hp
    | none => False
  | .iadd => pI st fun y r => pI r fun x r => G nx lv (vI (x + y) :: r) hp
  | .isub => pI st fun y r => pI r fun x r => G nx lv (vI (x - y) :: r) hp
  | .imul => pI st fun y r => pI r fun x r => G nx lv (vI (x * y) :: r) hp
  | .iand => pI st fun y r => pI r fun x r => G nx lv (vI (x &&& y) :: r) hp
  | .ior => pI st fun y r => pI r fun x r => G nx lv (vI (x ||| y) :: r) hp
  | .ixor => pI st fun y r => pI r fun x r => G nx lv (vI (x ^^^ y) :: r) hp
  | .ishl => pI st fun y r => pI r fun x r => G nx lv (vI (x <<< (y &&& 31)) :: r) hp
  | .ishr => pI st fun y r => pI r fun x r => G nx lv (vI (x >>> (y &&& 31)) :: r) hp
  | .iushr => pI st fun y r => pI r fun x r => G nx lv (vI ((x.toUInt32 >>> (y.toUInt32 &&& Int32.toUInt32 31)).toInt32) :: r) hp
  | .idiv => pI st fun y r => pI r fun x r => ¬ y = 0 ∧ G nx lv (vI (x / y) :: r) hp
  | .irem => pI st fun y r => pI r fun x r => ¬ y = 0 ∧ G nx lv (vI (x - x / y * y) :: r) hp
  | .ladd => pL st fun y r => pL r fun x r => G nx lv (vL (x + y) :: r) hp
  | .lsub => pL st fun y r => pL r fun x r => G nx lv (vL (x - y) :: r) hp
  | .lmul => pL st fun y r => pL r fun x r => G nx lv (vL (x * y) :: r) hp
  | .land => pL st fun y r => pL r fun x r => G nx lv (vL (x &&& y) :: r) hp
  | .lor => pL st fun y r => pL r fun x r => G nx lv (vL (x ||| y) :: r) hp
  | .lxor => pL st fun y r => pL r fun x r => G nx lv (vL (x ^^^ y) :: r) hp
  | .lshl => pI st fun y r => pL r fun x r => G nx lv (vL (x <<< (y.toInt64 &&& 63)) :: r) hp
  | .lshr => pI st fun y r => pL r fun x r => G nx lv (vL (x >>> (y.toInt64 &&& 63)) :: r) hp
  | .lushr => pI st fun y r => pL r fun x r => G nx lv (vL ((x.toUInt64 >>> (y.toInt64.toUInt64 &&& Int64.toUInt64 63)).toInt64) :: r) hp
  | .i2l => pI st fun x r => G nx lv (vL x.toInt64 :: r) hp
  | .l2i => pL st fun x r => G nx lv (vI x.toInt32 :: r) hp
  | .i2b => pI st fun x r => G nx lv (vI x.toInt8.toInt32 :: r) hp
  | .i2s => pI st fun x r => G nx lv (vI x.toInt16.toInt32 :: r) hp
  | .i2c => pI st fun x r => G nx lv (vI (x.toUInt32 % 65536).toInt32 :: r) hp
  | .lcmp => pL st fun y r => pL r fun x r => G nx lv (vI (lg_cmp x y) :: r) hp
  | .dup => pV st fun v r => one v (G nx lv (v :: v :: r) hp)
  | .dup2 => pV st fun v r => pV r fun u r => one v (one u (G nx lv (v :: u :: v :: u :: r) hp))
  | .pop => pV st fun v r => one v (G nx lv r hp)
  | .if_icmp .eq _ => pI st fun y r => pI r fun x r => tg1 tg fun t => (x = y → G t lv r hp) ∧ (¬ x = y → G nx lv r hp)
  | .ifCond .eq _ => pI st fun x r => tg1 tg fun t => (x = 0 → G t lv r hp) ∧ (¬ x = 0 → G nx lv r hp)
  | .if_icmp .ne _ => pI st fun y r => pI r fun x r => tg1 tg fun t => (¬ x = y → G t lv r hp) ∧ (x = y → G nx lv r hp)
  | .ifCond .ne _ => pI st fun x r => tg1 tg fun t => (¬ x = 0 → G t lv r hp) ∧ (x = 0 → G nx lv r hp)
  | .if_icmp .lt _ => pI st fun y r => pI r fun x r => tg1 tg fun t => (x < y → G t lv r hp) ∧ (¬ x < y → G nx lv r hp)
  | .ifCond .lt _ => pI st fun x r => tg1 tg fun t => (x < 0 → G t lv r hp) ∧ (¬ x < 0 → G nx lv r hp)
  | .if_icmp .ge _ => pI st fun y r => pI r fun x r => tg1 tg fun t => (y ≤ x → G t lv r hp) ∧ (¬ y ≤ x → G nx lv r hp)
  | .ifCond .ge _ => pI st fun x r => tg1 tg fun t => (0 ≤ x → G t lv r hp) ∧ (¬ 0 ≤ x → G nx lv r hp)
  | .if_icmp .gt _ => pI st fun y r => pI r fun x r => tg1 tg fun t => (y < x → G t lv r hp) ∧ (¬ y < x → G nx lv r hp)
  | .ifCond .gt _ => pI st fun x r => tg1 tg fun t => (0 < x → G t lv r hp) ∧ (¬ 0 < x → G nx lv r hp)
  | .if_icmp .le _ => pI st fun y r => pI r fun x r => tg1 tg fun t => (x ≤ y → G t lv r hp) ∧ (¬ x ≤ y → G nx lv r hp)
  | .ifCond .le _ => pI st fun x r => tg1 tg fun t => (x ≤ 0 → G t lv r hp) ∧ (¬ x ≤ 0 → G nx lv r hp)
  | .goto _ => tg1 tg fun t => G t lv st hp
  | .tableswitch _ lo hi _ => pI st fun x r => match tg with
    | d :: ts => swt x (fun t => G t lv r hp) lo hi d ts lo
    | [] => False
  | .getfield n => pA st (fun k c r => fsh K.1 n k fun j f => gtf hp c j f fun v => G nx lv (v :: r) hp) (fun n2 r => match n2 with
    | m + 10 => txok m ∧ (match lk K.2.2.2.2 n with
      | some 0 => G nx lv (vX (m + 11) :: r) hp
      | some _ => G nx lv (vI 0 :: r) hp
      | none => False)
    | _ => False)
  | .putfield n => pV st fun v r => pR r fun k c r => fsh K.1 n k fun j f => ptf hp c j f v fun hq => G nx lv r hq
  | .iaload => pI st fun i r => pA r (fun k c r => ash k 0 fun n => vp_in i n ∧ G nx lv (vI (hp.1 c i.toNatClampNeg) :: r) hp) (fun n r => match n with
    | 1 => (match sc with
      | some q => vp_in i q.1 ∧ G nx lv (vI (q.2 i.toNatClampNeg) :: r) hp
      | none => False)
    | 2 => vp_in i 6 ∧ G nx lv (vI (kab i.toNatClampNeg) :: r) hp
    | _ => False)
  | .laload => pI st fun i r => pR r fun k c r => ash k 1 fun n => vp_in i n ∧ G nx lv (vL (hp.2 c i.toNatClampNeg) :: r) hp
  | .baload => pI st fun i r => pA r (fun k c r => ash k 2 fun n => vp_in i n ∧ G nx lv (vI (hp.1 c i.toNatClampNeg) :: r) hp) (fun n r => match n with
    | m + 11 => (txok m ∧ vp_in i (tx_n m)) ∧ G nx lv (vI (tx_b m i.toNatClampNeg) :: r) hp
    | _ => False)
  | .aaload => pI st fun i r => pR r fun k c r => arf k fun n k2 d => vp_in i n ∧ G nx lv (vR k2 (c + d + i.toNatClampNeg) :: r) hp
  | .iastore => pI st fun x r => pI r fun i r => pR r fun k c r => ash k 0 fun n => vp_in i n ∧ G nx lv r (uI hp c i.toNatClampNeg x)
  | .lastore => pL st fun x r => pI r fun i r => pR r fun k c r => ash k 1 fun n => vp_in i n ∧ G nx lv r (uL hp c i.toNatClampNeg x)
  | .bastore => pI st fun x r => pI r fun i r => pR r fun k c r => ash k 2 fun n => vp_in i n ∧ G nx lv r (uI hp c i.toNatClampNeg x.toInt8.toInt32)
  | .arraylength => pA st (fun k _ r => aln k fun n => G nx lv (vI (nI n) :: r) hp) (fun n r => match n with
    | 1 => (match sc with
      | some q => G nx lv (vI (nI q.1) :: r) hp
      | none => False)
    | m + 11 => txok m ∧ G nx lv (vI (nI (tx_n m)) :: r) hp
    | _ => False)
  | .invokevirtual n => cll E false n st hp fun r hq => G nx lv r hq
  | .invokestatic n => cll E true n st hp fun r hq => G nx lv r hq
  | .ireturn => pI st fun x r => pN r (rtI ret x (Q (some (vI x)) hp))
  | .lreturn => pL st fun x r => pN r (match ret with
    | some .long => Q (some (vL x)) hp
    | _ => False)
  | .areturn => pA st (fun _ _ _ => False) (fun n r => pN r (match n, ret with
    | k + 1, some (.object _) => Q (some (vX (k + 1))) hp
    | _, _ => False))
  | .return_ => pN st (match ret with
    | none => Q none hp
    | _ => False)
  | _ => False
def stp (P : PG) (K : LKS) (E : EN) (nL : Nat) (ret : Option FieldType) (sc : Option (Nat × (Nat → Int32))) (Q : QP) (G : GP) (pc : Nat) (lv : LV) (st : List AV) (hp : HP) : Prop :=
  match lk2 P pc with
  | some e => stI K E nL ret sc Q G e.1 e.2.1 e.2.2 lv st hp
  | none => False
end
