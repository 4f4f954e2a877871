section
-- ===== PART A: goes FIRST, ahead of the names: the tables' words, and 'selects' of the private methods out of them =====
/-- a private method of a class that the tables say can be made, by its rows of tables_1 -/
def lw_okq (q : MethodName × Nat) : Prop := (q.1.cls ≠ "java/lang/invoke/MethodHandle" ∧ q.1.cls ≠ "java/lang/invoke/VarHandle") ∧ Cond.instantiable q.1.cls q.2 ∈ tables_1 ∧ Cond.privateMethod q.1 ∈ tables_1 ∧ Cond.instanceMethod q.1 ∈ tables_1
theorem lw_p0 : lw_okq (⟨"QueueBroker", "isDeclaredExchange", "(I)Z"⟩, 8) := ⟨⟨by decide +kernel, by decide +kernel⟩, List.mem_of_getElem? (i := 21) (by decide +kernel), List.mem_of_getElem? (i := 178) (by decide +kernel), List.mem_of_getElem? (i := 179) (by decide +kernel)⟩
theorem lw_p1 : lw_okq (⟨"QueueBroker", "isDeclaredQueue", "(I)Z"⟩, 8) := ⟨⟨by decide +kernel, by decide +kernel⟩, List.mem_of_getElem? (i := 21) (by decide +kernel), List.mem_of_getElem? (i := 182) (by decide +kernel), List.mem_of_getElem? (i := 183) (by decide +kernel)⟩
theorem lw_p2 : lw_okq (⟨"QueueBroker", "findBinding", "(III)I"⟩, 8) := ⟨⟨by decide +kernel, by decide +kernel⟩, List.mem_of_getElem? (i := 21) (by decide +kernel), List.mem_of_getElem? (i := 195) (by decide +kernel), List.mem_of_getElem? (i := 196) (by decide +kernel)⟩
theorem lw_p3 : lw_okq (⟨"java/util/ArrayList", "add", "(Ljava/lang/Object;[Ljava/lang/Object;I)V"⟩, 3) := ⟨⟨by decide +kernel, by decide +kernel⟩, List.mem_of_getElem? (i := 35) (by decide +kernel), List.mem_of_getElem? (i := 240) (by decide +kernel), List.mem_of_getElem? (i := 241) (by decide +kernel)⟩
theorem lw_p4 : lw_okq (⟨"java/util/ArrayList", "grow", "()[Ljava/lang/Object;"⟩, 3) := ⟨⟨by decide +kernel, by decide +kernel⟩, List.mem_of_getElem? (i := 35) (by decide +kernel), List.mem_of_getElem? (i := 244) (by decide +kernel), List.mem_of_getElem? (i := 245) (by decide +kernel)⟩
theorem lw_p5 : lw_okq (⟨"java/util/ArrayList", "grow", "(I)[Ljava/lang/Object;"⟩, 3) := ⟨⟨by decide +kernel, by decide +kernel⟩, List.mem_of_getElem? (i := 35) (by decide +kernel), List.mem_of_getElem? (i := 248) (by decide +kernel), List.mem_of_getElem? (i := 249) (by decide +kernel)⟩
theorem lw_p6 : lw_okq (⟨"java/util/ArrayList", "fastRemove", "([Ljava/lang/Object;I)V"⟩, 3) := ⟨⟨by decide +kernel, by decide +kernel⟩, List.mem_of_getElem? (i := 35) (by decide +kernel), List.mem_of_getElem? (i := 302) (by decide +kernel), List.mem_of_getElem? (i := 303) (by decide +kernel)⟩
theorem lw_p7 : lw_okq (⟨"QueueBroker", "forgetQueue", "(I)I"⟩, 8) := ⟨⟨by decide +kernel, by decide +kernel⟩, List.mem_of_getElem? (i := 21) (by decide +kernel), List.mem_of_getElem? (i := 311) (by decide +kernel), List.mem_of_getElem? (i := 312) (by decide +kernel)⟩
theorem lw_p8 : lw_okq (⟨"QueueBroker", "countChosen", "(II)I"⟩, 8) := ⟨⟨by decide +kernel, by decide +kernel⟩, List.mem_of_getElem? (i := 21) (by decide +kernel), List.mem_of_getElem? (i := 384) (by decide +kernel), List.mem_of_getElem? (i := 385) (by decide +kernel)⟩
theorem lw_p9 : lw_okq (⟨"QueueBroker", "isChosen", "(III)Z"⟩, 8) := ⟨⟨by decide +kernel, by decide +kernel⟩, List.mem_of_getElem? (i := 21) (by decide +kernel), List.mem_of_getElem? (i := 388) (by decide +kernel), List.mem_of_getElem? (i := 389) (by decide +kernel)⟩
theorem lw_p10 : lw_okq (⟨"QueueBroker", "route", "(ILQueueBroker$Message;)V"⟩, 8) := ⟨⟨by decide +kernel, by decide +kernel⟩, List.mem_of_getElem? (i := 21) (by decide +kernel), List.mem_of_getElem? (i := 398) (by decide +kernel), List.mem_of_getElem? (i := 399) (by decide +kernel)⟩
theorem lw_p11 : lw_okq (⟨"QueueBroker", "put", "(ILQueueBroker$Message;)V"⟩, 8) := ⟨⟨by decide +kernel, by decide +kernel⟩, List.mem_of_getElem? (i := 21) (by decide +kernel), List.mem_of_getElem? (i := 402) (by decide +kernel), List.mem_of_getElem? (i := 403) (by decide +kernel)⟩
theorem lw_p12 : lw_okq (⟨"java/util/ArrayList", "rangeCheckForAdd", "(I)V"⟩, 3) := ⟨⟨by decide +kernel, by decide +kernel⟩, List.mem_of_getElem? (i := 35) (by decide +kernel), List.mem_of_getElem? (i := 452) (by decide +kernel), List.mem_of_getElem? (i := 453) (by decide +kernel)⟩
theorem lw_p13 : lw_okq (⟨"QueueBroker", "routeLetters", "()V"⟩, 8) := ⟨⟨by decide +kernel, by decide +kernel⟩, List.mem_of_getElem? (i := 21) (by decide +kernel), List.mem_of_getElem? (i := 456) (by decide +kernel), List.mem_of_getElem? (i := 457) (by decide +kernel)⟩
theorem lw_p14 : lw_okq (⟨"QueueBroker", "canGoOn", "(LQueueBroker$Copy;)Z"⟩, 8) := ⟨⟨by decide +kernel, by decide +kernel⟩, List.mem_of_getElem? (i := 21) (by decide +kernel), List.mem_of_getElem? (i := 461) (by decide +kernel), List.mem_of_getElem? (i := 462) (by decide +kernel)⟩
theorem lw_p15 : lw_okq (⟨"QueueBroker", "findAbleConsumer", "(LQueueBroker$Queue;)I"⟩, 8) := ⟨⟨by decide +kernel, by decide +kernel⟩, List.mem_of_getElem? (i := 21) (by decide +kernel), List.mem_of_getElem? (i := 515) (by decide +kernel), List.mem_of_getElem? (i := 516) (by decide +kernel)⟩
def lw_privs_1 : List (MethodName × Nat) := [(⟨"QueueBroker", "isDeclaredExchange", "(I)Z"⟩, 8), (⟨"QueueBroker", "isDeclaredQueue", "(I)Z"⟩, 8), (⟨"QueueBroker", "findBinding", "(III)I"⟩, 8), (⟨"java/util/ArrayList", "add", "(Ljava/lang/Object;[Ljava/lang/Object;I)V"⟩, 3), (⟨"java/util/ArrayList", "grow", "()[Ljava/lang/Object;"⟩, 3), (⟨"java/util/ArrayList", "grow", "(I)[Ljava/lang/Object;"⟩, 3), (⟨"java/util/ArrayList", "fastRemove", "([Ljava/lang/Object;I)V"⟩, 3), (⟨"QueueBroker", "forgetQueue", "(I)I"⟩, 8), (⟨"QueueBroker", "countChosen", "(II)I"⟩, 8), (⟨"QueueBroker", "isChosen", "(III)Z"⟩, 8), (⟨"QueueBroker", "route", "(ILQueueBroker$Message;)V"⟩, 8), (⟨"QueueBroker", "put", "(ILQueueBroker$Message;)V"⟩, 8), (⟨"java/util/ArrayList", "rangeCheckForAdd", "(I)V"⟩, 3), (⟨"QueueBroker", "routeLetters", "()V"⟩, 8), (⟨"QueueBroker", "canGoOn", "(LQueueBroker$Copy;)Z"⟩, 8), (⟨"QueueBroker", "findAbleConsumer", "(LQueueBroker$Queue;)I"⟩, 8)]
theorem lw_r1 : ∀ q ∈ lw_privs_1, lw_okq q := List.forall_mem_cons.mpr ⟨lw_p0, List.forall_mem_cons.mpr ⟨lw_p1, List.forall_mem_cons.mpr ⟨lw_p2, List.forall_mem_cons.mpr ⟨lw_p3, List.forall_mem_cons.mpr ⟨lw_p4, List.forall_mem_cons.mpr ⟨lw_p5, List.forall_mem_cons.mpr ⟨lw_p6, List.forall_mem_cons.mpr ⟨lw_p7, List.forall_mem_cons.mpr ⟨lw_p8, List.forall_mem_cons.mpr ⟨lw_p9, List.forall_mem_cons.mpr ⟨lw_p10, List.forall_mem_cons.mpr ⟨lw_p11, List.forall_mem_cons.mpr ⟨lw_p12, List.forall_mem_cons.mpr ⟨lw_p13, List.forall_mem_cons.mpr ⟨lw_p14, List.forall_mem_cons.mpr ⟨lw_p15, fun _ h => absurd h List.not_mem_nil⟩⟩⟩⟩⟩⟩⟩⟩⟩⟩⟩⟩⟩⟩⟩⟩
theorem lw_p16 : lw_okq (⟨"QueueBroker", "settleMarked", "(LQueueBroker$Channel;II)V"⟩, 8) := ⟨⟨by decide +kernel, by decide +kernel⟩, List.mem_of_getElem? (i := 21) (by decide +kernel), List.mem_of_getElem? (i := 540) (by decide +kernel), List.mem_of_getElem? (i := 541) (by decide +kernel)⟩
theorem lw_p17 : lw_okq (⟨"QueueBroker", "settleCopy", "(LQueueBroker$Copy;I)V"⟩, 8) := ⟨⟨by decide +kernel, by decide +kernel⟩, List.mem_of_getElem? (i := 21) (by decide +kernel), List.mem_of_getElem? (i := 544) (by decide +kernel), List.mem_of_getElem? (i := 545) (by decide +kernel)⟩
theorem lw_p18 : lw_okq (⟨"QueueBroker", "giveBack", "(LQueueBroker$Copy;)V"⟩, 8) := ⟨⟨by decide +kernel, by decide +kernel⟩, List.mem_of_getElem? (i := 21) (by decide +kernel), List.mem_of_getElem? (i := 548) (by decide +kernel), List.mem_of_getElem? (i := 549) (by decide +kernel)⟩
theorem lw_p19 : lw_okq (⟨"QueueBroker", "doDeed", "(LQueueBroker$Channel;I)V"⟩, 8) := ⟨⟨by decide +kernel, by decide +kernel⟩, List.mem_of_getElem? (i := 21) (by decide +kernel), List.mem_of_getElem? (i := 564) (by decide +kernel), List.mem_of_getElem? (i := 565) (by decide +kernel)⟩
theorem lw_p20 : lw_okq (⟨"QueueBroker", "closeChannel", "(I)V"⟩, 8) := ⟨⟨by decide +kernel, by decide +kernel⟩, List.mem_of_getElem? (i := 21) (by decide +kernel), List.mem_of_getElem? (i := 581) (by decide +kernel), List.mem_of_getElem? (i := 582) (by decide +kernel)⟩
theorem lw_p21 : lw_okq (⟨"QueueBroker", "forgetExchange", "(I)V"⟩, 8) := ⟨⟨by decide +kernel, by decide +kernel⟩, List.mem_of_getElem? (i := 21) (by decide +kernel), List.mem_of_getElem? (i := 593) (by decide +kernel), List.mem_of_getElem? (i := 594) (by decide +kernel)⟩
theorem lw_p22 : lw_okq (⟨"QueueBroker", "countDeeds", "(I)I"⟩, 8) := ⟨⟨by decide +kernel, by decide +kernel⟩, List.mem_of_getElem? (i := 21) (by decide +kernel), List.mem_of_getElem? (i := 620) (by decide +kernel), List.mem_of_getElem? (i := 621) (by decide +kernel)⟩
theorem lw_p23 : lw_okq (⟨"QueueBroker", "countBindings", "(I)I"⟩, 8) := ⟨⟨by decide +kernel, by decide +kernel⟩, List.mem_of_getElem? (i := 21) (by decide +kernel), List.mem_of_getElem? (i := 624) (by decide +kernel), List.mem_of_getElem? (i := 625) (by decide +kernel)⟩
theorem lw_p24 : lw_okq (⟨"QueueBroker", "channelInFirstRow", "(I)I"⟩, 8) := ⟨⟨by decide +kernel, by decide +kernel⟩, List.mem_of_getElem? (i := 21) (by decide +kernel), List.mem_of_getElem? (i := 628) (by decide +kernel), List.mem_of_getElem? (i := 629) (by decide +kernel)⟩
theorem lw_p25 : lw_okq (⟨"QueueBrokerModel", "isQ", "(I)Z"⟩, 43) := ⟨⟨by decide +kernel, by decide +kernel⟩, List.mem_of_getElem? (i := 632) (by decide +kernel), List.mem_of_getElem? (i := 781) (by decide +kernel), List.mem_of_getElem? (i := 782) (by decide +kernel)⟩
theorem lw_p26 : lw_okq (⟨"QueueBrokerModel", "isE", "(I)Z"⟩, 43) := ⟨⟨by decide +kernel, by decide +kernel⟩, List.mem_of_getElem? (i := 632) (by decide +kernel), List.mem_of_getElem? (i := 789) (by decide +kernel), List.mem_of_getElem? (i := 790) (by decide +kernel)⟩
theorem lw_p27 : lw_okq (⟨"QueueBrokerModel", "binding", "(III)I"⟩, 43) := ⟨⟨by decide +kernel, by decide +kernel⟩, List.mem_of_getElem? (i := 632) (by decide +kernel), List.mem_of_getElem? (i := 802) (by decide +kernel), List.mem_of_getElem? (i := 803) (by decide +kernel)⟩
theorem lw_p28 : lw_okq (⟨"QueueBrokerModel", "unbindAt", "(I)V"⟩, 43) := ⟨⟨by decide +kernel, by decide +kernel⟩, List.mem_of_getElem? (i := 632) (by decide +kernel), List.mem_of_getElem? (i := 810) (by decide +kernel), List.mem_of_getElem? (i := 811) (by decide +kernel)⟩
theorem lw_p29 : lw_okq (⟨"QueueBrokerModel", "remove", "(I)V"⟩, 43) := ⟨⟨by decide +kernel, by decide +kernel⟩, List.mem_of_getElem? (i := 632) (by decide +kernel), List.mem_of_getElem? (i := 818) (by decide +kernel), List.mem_of_getElem? (i := 819) (by decide +kernel)⟩
theorem lw_p30 : lw_okq (⟨"QueueBrokerModel", "removeConsumer", "(I)V"⟩, 43) := ⟨⟨by decide +kernel, by decide +kernel⟩, List.mem_of_getElem? (i := 632) (by decide +kernel), List.mem_of_getElem? (i := 822) (by decide +kernel), List.mem_of_getElem? (i := 823) (by decide +kernel)⟩
theorem lw_p31 : lw_okq (⟨"QueueBrokerModel", "note", "(IIIII)I"⟩, 43) := ⟨⟨by decide +kernel, by decide +kernel⟩, List.mem_of_getElem? (i := 632) (by decide +kernel), List.mem_of_getElem? (i := 833) (by decide +kernel), List.mem_of_getElem? (i := 834) (by decide +kernel)⟩
def lw_privs_2 : List (MethodName × Nat) := [(⟨"QueueBroker", "settleMarked", "(LQueueBroker$Channel;II)V"⟩, 8), (⟨"QueueBroker", "settleCopy", "(LQueueBroker$Copy;I)V"⟩, 8), (⟨"QueueBroker", "giveBack", "(LQueueBroker$Copy;)V"⟩, 8), (⟨"QueueBroker", "doDeed", "(LQueueBroker$Channel;I)V"⟩, 8), (⟨"QueueBroker", "closeChannel", "(I)V"⟩, 8), (⟨"QueueBroker", "forgetExchange", "(I)V"⟩, 8), (⟨"QueueBroker", "countDeeds", "(I)I"⟩, 8), (⟨"QueueBroker", "countBindings", "(I)I"⟩, 8), (⟨"QueueBroker", "channelInFirstRow", "(I)I"⟩, 8), (⟨"QueueBrokerModel", "isQ", "(I)Z"⟩, 43), (⟨"QueueBrokerModel", "isE", "(I)Z"⟩, 43), (⟨"QueueBrokerModel", "binding", "(III)I"⟩, 43), (⟨"QueueBrokerModel", "unbindAt", "(I)V"⟩, 43), (⟨"QueueBrokerModel", "remove", "(I)V"⟩, 43), (⟨"QueueBrokerModel", "removeConsumer", "(I)V"⟩, 43), (⟨"QueueBrokerModel", "note", "(IIIII)I"⟩, 43)]
theorem lw_r2 : ∀ q ∈ lw_privs_2, lw_okq q := List.forall_mem_cons.mpr ⟨lw_p16, List.forall_mem_cons.mpr ⟨lw_p17, List.forall_mem_cons.mpr ⟨lw_p18, List.forall_mem_cons.mpr ⟨lw_p19, List.forall_mem_cons.mpr ⟨lw_p20, List.forall_mem_cons.mpr ⟨lw_p21, List.forall_mem_cons.mpr ⟨lw_p22, List.forall_mem_cons.mpr ⟨lw_p23, List.forall_mem_cons.mpr ⟨lw_p24, List.forall_mem_cons.mpr ⟨lw_p25, List.forall_mem_cons.mpr ⟨lw_p26, List.forall_mem_cons.mpr ⟨lw_p27, List.forall_mem_cons.mpr ⟨lw_p28, List.forall_mem_cons.mpr ⟨lw_p29, List.forall_mem_cons.mpr ⟨lw_p30, List.forall_mem_cons.mpr ⟨lw_p31, fun _ h => absurd h List.not_mem_nil⟩⟩⟩⟩⟩⟩⟩⟩⟩⟩⟩⟩⟩⟩⟩⟩
theorem lw_p32 : lw_okq (⟨"QueueBrokerModel", "choose", "(II)I"⟩, 43) := ⟨⟨by decide +kernel, by decide +kernel⟩, List.mem_of_getElem? (i := 632) (by decide +kernel), List.mem_of_getElem? (i := 837) (by decide +kernel), List.mem_of_getElem? (i := 838) (by decide +kernel)⟩
theorem lw_p33 : lw_okq (⟨"QueueBrokerModel", "matches", "(II)Z"⟩, 43) := ⟨⟨by decide +kernel, by decide +kernel⟩, List.mem_of_getElem? (i := 632) (by decide +kernel), List.mem_of_getElem? (i := 841) (by decide +kernel), List.mem_of_getElem? (i := 842) (by decide +kernel)⟩
theorem lw_p34 : lw_okq (⟨"QueueBrokerModel", "route", "(IIIIZ)I"⟩, 43) := ⟨⟨by decide +kernel, by decide +kernel⟩, List.mem_of_getElem? (i := 632) (by decide +kernel), List.mem_of_getElem? (i := 845) (by decide +kernel), List.mem_of_getElem? (i := 846) (by decide +kernel)⟩
theorem lw_p35 : lw_okq (⟨"QueueBrokerModel", "put", "(IIIIZ)V"⟩, 43) := ⟨⟨by decide +kernel, by decide +kernel⟩, List.mem_of_getElem? (i := 632) (by decide +kernel), List.mem_of_getElem? (i := 849) (by decide +kernel), List.mem_of_getElem? (i := 850) (by decide +kernel)⟩
theorem lw_p36 : lw_okq (⟨"QueueBrokerModel", "readyCount", "(I)I"⟩, 43) := ⟨⟨by decide +kernel, by decide +kernel⟩, List.mem_of_getElem? (i := 632) (by decide +kernel), List.mem_of_getElem? (i := 853) (by decide +kernel), List.mem_of_getElem? (i := 854) (by decide +kernel)⟩
theorem lw_p37 : lw_okq (⟨"QueueBrokerModel", "readyAt", "(II)I"⟩, 43) := ⟨⟨by decide +kernel, by decide +kernel⟩, List.mem_of_getElem? (i := 632) (by decide +kernel), List.mem_of_getElem? (i := 857) (by decide +kernel), List.mem_of_getElem? (i := 858) (by decide +kernel)⟩
theorem lw_p38 : lw_okq (⟨"QueueBrokerModel", "letter", "(I)V"⟩, 43) := ⟨⟨by decide +kernel, by decide +kernel⟩, List.mem_of_getElem? (i := 632) (by decide +kernel), List.mem_of_getElem? (i := 861) (by decide +kernel), List.mem_of_getElem? (i := 862) (by decide +kernel)⟩
theorem lw_p39 : lw_okq (⟨"QueueBrokerModel", "routeLetters", "()V"⟩, 43) := ⟨⟨by decide +kernel, by decide +kernel⟩, List.mem_of_getElem? (i := 632) (by decide +kernel), List.mem_of_getElem? (i := 865) (by decide +kernel), List.mem_of_getElem? (i := 866) (by decide +kernel)⟩
theorem lw_p40 : lw_okq (⟨"QueueBrokerModel", "consumer", "(II)I"⟩, 43) := ⟨⟨by decide +kernel, by decide +kernel⟩, List.mem_of_getElem? (i := 632) (by decide +kernel), List.mem_of_getElem? (i := 873) (by decide +kernel), List.mem_of_getElem? (i := 874) (by decide +kernel)⟩
theorem lw_p41 : lw_okq (⟨"QueueBrokerModel", "addConsumer", "(IIZ)V"⟩, 43) := ⟨⟨by decide +kernel, by decide +kernel⟩, List.mem_of_getElem? (i := 632) (by decide +kernel), List.mem_of_getElem? (i := 877) (by decide +kernel), List.mem_of_getElem? (i := 878) (by decide +kernel)⟩
theorem lw_p42 : lw_okq (⟨"QueueBrokerModel", "heldCount", "(I)I"⟩, 43) := ⟨⟨by decide +kernel, by decide +kernel⟩, List.mem_of_getElem? (i := 632) (by decide +kernel), List.mem_of_getElem? (i := 889) (by decide +kernel), List.mem_of_getElem? (i := 890) (by decide +kernel)⟩
theorem lw_p43 : lw_okq (⟨"QueueBrokerModel", "meant", "(IIIZ)Z"⟩, 43) := ⟨⟨by decide +kernel, by decide +kernel⟩, List.mem_of_getElem? (i := 632) (by decide +kernel), List.mem_of_getElem? (i := 897) (by decide +kernel), List.mem_of_getElem? (i := 898) (by decide +kernel)⟩
theorem lw_p44 : lw_okq (⟨"QueueBrokerModel", "settleAll", "(IIIZI)I"⟩, 43) := ⟨⟨by decide +kernel, by decide +kernel⟩, List.mem_of_getElem? (i := 632) (by decide +kernel), List.mem_of_getElem? (i := 901) (by decide +kernel), List.mem_of_getElem? (i := 902) (by decide +kernel)⟩
theorem lw_p45 : lw_okq (⟨"QueueBrokerModel", "settleOne", "(II)V"⟩, 43) := ⟨⟨by decide +kernel, by decide +kernel⟩, List.mem_of_getElem? (i := 632) (by decide +kernel), List.mem_of_getElem? (i := 905) (by decide +kernel), List.mem_of_getElem? (i := 906) (by decide +kernel)⟩
theorem lw_p46 : lw_okq (⟨"QueueBrokerModel", "forget", "(I)I"⟩, 43) := ⟨⟨by decide +kernel, by decide +kernel⟩, List.mem_of_getElem? (i := 632) (by decide +kernel), List.mem_of_getElem? (i := 921) (by decide +kernel), List.mem_of_getElem? (i := 922) (by decide +kernel)⟩
theorem lw_p47 : lw_okq (⟨"QueueBrokerModel", "field", "(II)J"⟩, 43) := ⟨⟨by decide +kernel, by decide +kernel⟩, List.mem_of_getElem? (i := 632) (by decide +kernel), List.mem_of_getElem? (i := 944) (by decide +kernel), List.mem_of_getElem? (i := 945) (by decide +kernel)⟩
def lw_privs_3 : List (MethodName × Nat) := [(⟨"QueueBrokerModel", "choose", "(II)I"⟩, 43), (⟨"QueueBrokerModel", "matches", "(II)Z"⟩, 43), (⟨"QueueBrokerModel", "route", "(IIIIZ)I"⟩, 43), (⟨"QueueBrokerModel", "put", "(IIIIZ)V"⟩, 43), (⟨"QueueBrokerModel", "readyCount", "(I)I"⟩, 43), (⟨"QueueBrokerModel", "readyAt", "(II)I"⟩, 43), (⟨"QueueBrokerModel", "letter", "(I)V"⟩, 43), (⟨"QueueBrokerModel", "routeLetters", "()V"⟩, 43), (⟨"QueueBrokerModel", "consumer", "(II)I"⟩, 43), (⟨"QueueBrokerModel", "addConsumer", "(IIZ)V"⟩, 43), (⟨"QueueBrokerModel", "heldCount", "(I)I"⟩, 43), (⟨"QueueBrokerModel", "meant", "(IIIZ)Z"⟩, 43), (⟨"QueueBrokerModel", "settleAll", "(IIIZI)I"⟩, 43), (⟨"QueueBrokerModel", "settleOne", "(II)V"⟩, 43), (⟨"QueueBrokerModel", "forget", "(I)I"⟩, 43), (⟨"QueueBrokerModel", "field", "(II)J"⟩, 43)]
theorem lw_r3 : ∀ q ∈ lw_privs_3, lw_okq q := List.forall_mem_cons.mpr ⟨lw_p32, List.forall_mem_cons.mpr ⟨lw_p33, List.forall_mem_cons.mpr ⟨lw_p34, List.forall_mem_cons.mpr ⟨lw_p35, List.forall_mem_cons.mpr ⟨lw_p36, List.forall_mem_cons.mpr ⟨lw_p37, List.forall_mem_cons.mpr ⟨lw_p38, List.forall_mem_cons.mpr ⟨lw_p39, List.forall_mem_cons.mpr ⟨lw_p40, List.forall_mem_cons.mpr ⟨lw_p41, List.forall_mem_cons.mpr ⟨lw_p42, List.forall_mem_cons.mpr ⟨lw_p43, List.forall_mem_cons.mpr ⟨lw_p44, List.forall_mem_cons.mpr ⟨lw_p45, List.forall_mem_cons.mpr ⟨lw_p46, List.forall_mem_cons.mpr ⟨lw_p47, fun _ h => absurd h List.not_mem_nil⟩⟩⟩⟩⟩⟩⟩⟩⟩⟩⟩⟩⟩⟩⟩⟩
theorem lw_p48 : lw_okq (⟨"QueueBrokerModel", "heldAt", "(II)I"⟩, 43) := ⟨⟨by decide +kernel, by decide +kernel⟩, List.mem_of_getElem? (i := 632) (by decide +kernel), List.mem_of_getElem? (i := 952) (by decide +kernel), List.mem_of_getElem? (i := 953) (by decide +kernel)⟩
def lw_privs_4 : List (MethodName × Nat) := [(⟨"QueueBrokerModel", "heldAt", "(II)I"⟩, 43)]
theorem lw_r4 : ∀ q ∈ lw_privs_4, lw_okq q := List.forall_mem_cons.mpr ⟨lw_p48, fun _ h => absurd h List.not_mem_nil⟩
def lw_privs : List (MethodName × Nat) := lw_privs_1 ++ (lw_privs_2 ++ (lw_privs_3 ++ (lw_privs_4)))
def lw_tbl : List Cond := k2_sels lw_privs ++ tables_1
theorem lw_privs_ok : ∀ q ∈ lw_privs, lw_okq q := by
  show ∀ q ∈ lw_privs_1 ++ (lw_privs_2 ++ (lw_privs_3 ++ (lw_privs_4))), lw_okq q
  exact List.forall_mem_append.mpr ⟨lw_r1, List.forall_mem_append.mpr ⟨lw_r2, List.forall_mem_append.mpr ⟨lw_r3, lw_r4⟩⟩⟩
-- ===== end of PART A; then your names; then what follows =====
/-! THE CLAIM OUT OF ONE WALK OF THE LAW'S BODY. Your part is whole_start (and what it stands on); all else here is the same for every law, but numbers. -/
def R_law : String := "QueueBrokerLaw"
def lw_P (b : Addr) (xs : List Int32) (args : Array Value) (s : State) : Prop := args = #[.ref b] ∧ s.IntsAt b xs ∧ xs.length ≤ 3072 ∧ (Jvm.Cond.and given_1 narrow_1).before args s = true
def lw_Q (_ : Array Value) (s : State) (o : Outcome) (t : State) : Prop := o = .returned (some (.int 1)) ∧ Framed s o t [] 600000 7302250
def lw_Z (below : List Frame) (a : Array Value) (s : State) : State → Prop := fun t => ∃ o, t.status = .running ∧ Ended t below o ∧ lw_Q a s o t
/-- the law's own end, with 1 on the stack, nothing written that was there before, its room as the claim has it -/
theorem lw_ret {p : Program} {l : Launch} {e : Env} {s : State} {m : MethodId} {below : List Frame} {meth : Method} {c : Code} {b : Nat} (hx : p.tables.exec = Jvm.exec) (hb : c.code = code) (hr : meth.sig.returnType = ret) (hlocks : meth.locks = false) {pc : Nat} {H : Heap} {ls : Array Slot} (hdg : decode code pc = .ok (.ireturn, 1)) : W p l e room_1 s m #[Value.ref b] below meth c H [] 600000 7302250 (lw_Z below #[Value.ref b] s) (F0 m pc ls [.int 1]) := by
  intro T hT X
  obtain ⟨fs, hret, hrun, hended, hW, hframe⟩ := X.leave (v := some (.int 1)) (hlocks := hlocks) (fun h => by rw [hr] at h; cases h)
  have hmeth' : T.vm.method? m = some meth := X.method'
  refine ⟨T.setFrames fs, ?_, .returned (some (.int 1)), hrun, hended, rfl, ⟨_, rfl⟩, hW, hframe⟩
  jvm_step X.here [X.here.top, hx, hb, hdg, hmeth', hr, ret, narrow_b1]
  (try refine ⟨rfl, ?_⟩); (try refine ⟨rfl, ?_⟩)
  first | (intro acts; rw [hret _ acts rfl rfl rfl]) | rw [hret _ _ rfl rfl rfl]
  exact Steps.refl _
/-- what holds at the law's entry: the machine, the code, the tables' words (any of lw_tbl by 'hts w (by decide +kernel)'), the script of L ints xs at the cell b, what the Statement gives of the start (any of its parts by flat_of_before) -/
def lw_At (p : Program) (s : State) (m : MethodId) (meth : Method) (c : Code) (b L : Nat) (xs : Nat → Int32) : Prop :=
  p.tables.exec = Jvm.exec ∧ c.code = code ∧ meth.sig.returnType = ret ∧ c.maxLocals = 4 ∧ s.vm.findClass R_law = some m.cls ∧ (∀ w ∈ lw_tbl, w.before #[Value.ref b] s = true) ∧ va_X b L xs s s.heap ∧ b < s.heap.size ∧ meth.locks = false ∧ (Jvm.Cond.and given_1 narrow_1).before #[Value.ref b] s = true
end
section
/-! THE WHOLE HEAP AS ONE PICTURE. h : AH = (top, cells left, slots left, what lies at each address): (0, _) nothing; (t, fields) with 0 < t < 100 an object of class number t - 1; (100 + j, contents) an array of kind j; (200, contents) the law's script; (201, []) the JDK's array of no places. What was there before the law (H0) is never written. -/
abbrev AH : Type := Nat × Nat × Nat × (Nat → Nat × List Value)
def ah_up (f : Nat → Nat × List Value) (a : Nat) (e : Nat × List Value) : Nat → Nat × List Value := fun b => if b = a then e else f b
def ah_set (h : AH) (a : Nat) (e : Nat × List Value) : AH := (h.1, h.2.1, h.2.2.1, ah_up h.2.2.2 a e)
def ah_new (h : AH) (e : Nat × List Value) : AH := (h.1 + 1, h.2.1 - 1, h.2.2.1 - e.2.length, ah_up h.2.2.2 h.1 e)
/-- what lies at a -/
def at_ (h : AH) (a t : Nat) (vs : List Value) : Prop := h.2.2.2 a = (t, vs)
def sl_sum (B : Nat) (H : Heap) : Nat := ((H.toList.drop B).map (fun c => c.slots.size)).sum
def ce_at (D : va_G) (cl : List vw_C) (tys : List (ClassId × FieldType)) (a : Nat) (e : Nat × List Value) (H : Heap) : Prop :=
  if e.1 < 100 then ∃ r : vw_C, cl[e.1 - 1]? = some r ∧ e.2.length = r.2.2 ∧ t_OB a (D.1 (e.1 - 1)) r.2.2 (D.2 (e.1 - 1)) H (vp_V e.2)
  else if e.1 < 200 then ∃ q : ClassId × FieldType, tys[e.1 - 100]? = some q ∧ H[a]? = some (arrV q.1 e.2.length (vp_V e.2))
  else ∃ scr : Cell, H[a]? = some scr ∧ (e.1 = 200 → scr.slots = e.2.toArray)
def Rl (D : va_G) (cl : List vw_C) (tys : List (ClassId × FieldType)) (H0 : Heap) (LC LS : Nat) (h : AH) (H : Heap) : Prop :=
  H.size = h.1 ∧ H0.size ≤ h.1 ∧ h.1 + h.2.1 = H0.size + LC ∧ sl_sum H0.size H + h.2.2.1 = LS ∧ (∀ a : Nat, a < H0.size → H[a]? = H0[a]?) ∧
  ∀ a : Nat, (h.2.2.2 a).1 ≠ 0 → (a < h.1 ∧ (a < H0.size → 200 ≤ (h.2.2.2 a).1 ∨ (100 ≤ (h.2.2.2 a).1 ∧ (h.2.2.2 a).2 = []))) ∧ ce_at D cl tys a (h.2.2.2 a) H
theorem ce_kept {D : va_G} {cl : List vw_C} {tys : List (ClassId × FieldType)} {a : Nat} {e : Nat × List Value} {H H1 : Heap} (h : ce_at D cl tys a e H) (hq : H1[a]? = H[a]?) : ce_at D cl tys a e H1 := by
  unfold ce_at at h ⊢
  split
  · rename_i c1
    rw [if_pos c1] at h
    obtain ⟨r, h1, h2, h3⟩ := h
    exact ⟨r, h1, h2, h3.kept hq⟩
  · rename_i c1
    rw [if_neg c1] at h
    split
    · rename_i c2
      rw [if_pos c2] at h
      obtain ⟨q, h1, h2⟩ := h
      exact ⟨q, h1, hq.trans h2⟩
    · rename_i c2
      rw [if_neg c2] at h
      obtain ⟨scr, h1, h2⟩ := h
      exact ⟨scr, hq.trans h1, h2⟩
/-- old cells keep their sizes -/
def sl_keep (H0 H : Heap) : Prop := ∀ (a : Nat) (c : Cell), H0[a]? = some c → ∃ c' : Cell, H[a]? = some c' ∧ c'.slots.size = c.slots.size
theorem sl_split {B : Nat} {H0 H : Heap} (hB : B ≤ H0.size) (hs : H0.size ≤ H.size) (hk : sl_keep H0 H) : sl_sum B H = sl_sum B H0 + sl_sum H0.size H := by
  have key : ((H.toList.map (fun c => c.slots.size)).take H0.size) = H0.toList.map (fun c => c.slots.size) := by
    apply List.ext_getElem?
    intro i
    by_cases hi : i < H0.size
    · obtain ⟨c', h1, h2⟩ := hk i (H0[i]) (Array.getElem?_eq_getElem hi)
      rw [List.getElem?_take_of_lt hi, List.getElem?_map, List.getElem?_map, Array.getElem?_toList, Array.getElem?_toList, h1, Array.getElem?_eq_getElem hi]
      simp [h2]
    · rw [List.getElem?_eq_none (by rw [List.length_take]; omega), List.getElem?_eq_none (by rw [List.length_map, Array.length_toList]; omega)]
  have e1 : ∀ (b : Nat) (G : Heap), sl_sum b G = ((G.toList.map (fun c => c.slots.size)).drop b).sum := fun b G => by
    unfold sl_sum
    rw [List.map_drop]
  rw [e1, e1, e1]
  have e2 : (H.toList.map (fun c => c.slots.size)) = (H0.toList.map (fun c => c.slots.size)) ++ (H.toList.map (fun c => c.slots.size)).drop H0.size := by
    rw [← key, List.take_append_drop]
  have hl : (H0.toList.map (fun c => c.slots.size)).length = H0.size := by rw [List.length_map, Array.length_toList]
  conv => lhs; rw [e2]
  rw [List.drop_append_of_le_length (by rw [hl]; exact hB), List.sum_append]
theorem sl_same {B : Nat} {H H1 : Heap} (hz : H1.size = H.size) (hk : sl_keep H H1) : sl_sum B H1 = sl_sum B H := by
  unfold sl_sum
  rw [List.map_drop, List.map_drop]
  congr 2
  apply List.ext_getElem?
  intro i
  rw [List.getElem?_map, List.getElem?_map, Array.getElem?_toList, Array.getElem?_toList]
  by_cases hi : i < H.size
  · obtain ⟨c', h1, h2⟩ := hk i (H[i]) (Array.getElem?_eq_getElem hi)
    rw [h1, Array.getElem?_eq_getElem hi]
    simp [h2]
  · rw [Array.getElem?_eq_none (by omega), Array.getElem?_eq_none (by omega)]
theorem sl_push {B : Nat} {H H1 : Heap} {c : Cell} (hB : B ≤ H.size) (hz : H1.size = H.size + 1) (hc : H1[H.size]? = some c) (ho : ∀ q : Nat, q < H.size → H1[q]? = H[q]?) : sl_sum B H1 = sl_sum B H + c.slots.size := by
  have h1 := sl_split (B := B) (H0 := H) (H := H1) hB (by omega) (fun a d hd => ⟨d, by rw [ho a (Array.getElem?_eq_some_iff.mp hd).1]; exact hd, rfl⟩)
  rw [h1]
  congr 1
  unfold sl_sum
  have : H1.toList.drop H.size = [c] := by
    apply List.ext_getElem?
    intro i
    rw [List.getElem?_drop, Array.getElem?_toList]
    cases i with
    | zero => simpa using hc
    | succ n => rw [Array.getElem?_eq_none (by omega)]; simp
  rw [this]
  simp
/-- a cell is written: same class, same size -/
theorem Rl.set {D : va_G} {cl : List vw_C} {tys : List (ClassId × FieldType)} {H0 : Heap} {LC LS : Nat} {h : AH} {H H1 : Heap} {a : Nat} {e : Nat × List Value} (hR : Rl D cl tys H0 LC LS h H) (ha : H0.size ≤ a) (hlt : a < h.1) (hz : H1.size = H.size) (ho : ∀ q : Nat, q ≠ a → H1[q]? = H[q]?) (hs : ∀ c : Cell, H[a]? = some c → ∃ c' : Cell, H1[a]? = some c' ∧ c'.slots.size = c.slots.size) (he : ce_at D cl tys a e H1) : Rl D cl tys H0 LC LS (ah_set h a e) H1 := by
  obtain ⟨h1, h2, h3, h4, h5, h6⟩ := hR
  refine ⟨hz.trans h1, h2, h3, ?_, fun q hq => (ho q (by omega)).trans (h5 q hq), fun q hq => ?_⟩
  · rw [sl_same hz (fun q c hc => ?_)]
    · exact h4
    · by_cases e1 : q = a
      · subst e1; exact hs c hc
      · exact ⟨c, (ho q e1).trans hc, rfl⟩
  · by_cases e1 : q = a
    · subst e1
      have e2 : (ah_set h q e).2.2.2 q = e := by simp [ah_set, ah_up]
      rw [e2]
      exact ⟨⟨hlt, fun h => by omega⟩, he⟩
    · have e2 : (ah_set h a e).2.2.2 q = h.2.2.2 q := by simp [ah_set, ah_up, e1]
      rw [e2] at hq ⊢
      exact ⟨(h6 q hq).1, ce_kept (h6 q hq).2 (ho q e1)⟩
/-- a cell is made -/
theorem Rl.new {D : va_G} {cl : List vw_C} {tys : List (ClassId × FieldType)} {H0 : Heap} {LC LS : Nat} {h : AH} {H H1 : Heap} {c : Cell} {e : Nat × List Value} (hR : Rl D cl tys H0 LC LS h H) (hz : H1.size = H.size + 1) (hc : H1[H.size]? = some c) (ho : ∀ q : Nat, q < H.size → H1[q]? = H[q]?) (hsz : c.slots.size = e.2.length) (he : ce_at D cl tys H.size e H1) (r1 : 1 ≤ h.2.1) (r2 : e.2.length ≤ h.2.2.1) : Rl D cl tys H0 LC LS (ah_new h e) H1 := by
  obtain ⟨h1, h2, h3, h4, h5, h6⟩ := hR
  refine ⟨?_, ?_, ?_, ?_, fun q hq => (ho q (by omega)).trans (h5 q hq), fun q hq => ?_⟩
  · show H1.size = h.1 + 1
    omega
  · show H0.size ≤ h.1 + 1
    omega
  · show h.1 + 1 + (h.2.1 - 1) = _
    omega
  · show sl_sum H0.size H1 + (h.2.2.1 - e.2.length) = LS
    rw [sl_push (by omega) hz hc ho]
    omega
  · by_cases e1 : q = h.1
    · subst e1
      have e2 : (ah_new h e).2.2.2 h.1 = e := by simp [ah_new, ah_up]
      rw [e2]
      exact ⟨⟨by show h.1 < h.1 + 1; omega, fun h => by omega⟩, by rw [← h1]; exact he⟩
    · have e2 : (ah_new h e).2.2.2 q = h.2.2.2 q := by simp [ah_new, ah_up, e1]
      rw [e2] at hq ⊢
      obtain ⟨⟨g1, g2⟩, g3⟩ := h6 q hq
      exact ⟨⟨by show q < h.1 + 1; omega, g2⟩, ce_kept g3 (ho q (by omega))⟩
section QJ
variable {p : Program} {l : Launch} {e : Env} {R : Room} {s : State} {m : MethodId} {args : Array Value} {below : List Frame} {meth : Method} {c : Code}
/-- the counters may be told anew from the heap itself -/
theorem W_tight {H : Heap} {locs : List Loc} {cells slots k n : Nat} {Q : State → Prop} {g : JFrame} (h1 : H.size ≤ s.heap.size + k) (h2 : sl_keep s.heap H → s.heap.size ≤ H.size → sl_sum s.heap.size H ≤ n)
    (kk : W p l e R s m args below meth c H locs k n Q g) : W p l e R s m args below meth c H locs cells slots Q g := by
  intro T hT X
  obtain ⟨a1, a2, a3, a4, a5, a6⟩ := id X.same
  have hh : (T.setVm s.vm).heap = H := hT
  have h3 : sl_sum s.heap.size H ≤ n := h2 (fun a c hc => by
    obtain ⟨c', q1, q2, q3, q4⟩ := a6 a c hc
    rw [hh] at q1
    exact ⟨c', q1, q3⟩) (by rw [← hh]; exact a2)
  exact kk T hT { X with same := ⟨a1, a2, by rw [hh]; exact h1, a4, by rw [hh]; exact h3, a6⟩ }
/-- the judgement over pictures: any heap that shows h -/
def J (p : Program) (l : Launch) (e : Env) (R : Room) (s : State) (m : MethodId) (args : Array Value) (below : List Frame) (meth : Method) (c : Code) (D : va_G) (cl : List vw_C) (tys : List (ClassId × FieldType)) (H0 : Heap) (LC LS : Nat) (Q : State → Prop) (h : AH) (g : JFrame) : Prop :=
  ∀ (H : Heap) (locs : List Loc) (cells slots : Nat), Rl D cl tys H0 LC LS h H → (∀ q ∈ locs, H0.size ≤ q.base) → W p l e R s m args below meth c H locs cells slots Q g
/-- with the counters told from the picture -/
theorem J_tight {D : va_G} {cl : List vw_C} {tys : List (ClassId × FieldType)} {H0 : Heap} {LC LS : Nat} {h0 h : AH} {H : Heap} {locs : List Loc} {cells slots : Nat} {Q : State → Prop} {g : JFrame} (r0 : Rl D cl tys H0 LC LS h0 s.heap) (r : Rl D cl tys H0 LC LS h H)
    (kk : W p l e R s m args below meth c H locs (h0.2.1 - h.2.1) (h0.2.2.1 - h.2.2.1) Q g) : W p l e R s m args below meth c H locs cells slots Q g := by
  obtain ⟨a1, a2, a3, a4, a5, a6⟩ := r0
  obtain ⟨b1, b2, b3, b4, b5, b6⟩ := r
  refine W_tight (by omega) (fun hk hle => ?_) kk
  have := sl_split (B := H0.size) (by omega) hle hk
  omega
end QJ
end
section
/-! THE PROGRAM AS A PREDICATE OVER PICTURES. An instruction with its length and what it names (numbers: targets, class numbers, field numbers, words' places); a block is a list of them. -/
abbrev Ins : Type := Instr × Nat × List Nat
abbrev PT : Type := Option Value → AH → Prop
abbrev KT : Type := Nat → List Value → List Value → AH → Prop
def c1_ : Value → Bool
  | .long _ => false
  | .double _ => false
  | _ => true
def lkb : List (Nat × List Ins) → Nat → List Ins
  | [], _ => []
  | (p, b) :: r, q => if p = q then b else lkb r q
/-- what may be stored in a field or a place of the kind: 0 int, 4 boolean, 1 and 2 a reference, 3 long -/
def pvk (kd : Nat) (v : Value) : Prop := match kd, v with
  | 0, .int _ => True
  | 4, .int x => x = 0 ∨ x = 1
  | 1, .ref _ => True
  | 1, .null => True
  | 2, .ref _ => True
  | 2, .null => True
  | _, _ => False
/-- may an object of class number tb lie in an array of kind t -/
def asg : Nat → Nat → Bool
  | 100, 6 => true
  | 101, 8 => true
  | 102, 2 => true
  | 103, 1 => true
  | 103, 3 => true
  | 103, 4 => true
  | 103, 5 => true
  | _, _ => false
def isRA : Nat → Bool
  | 100 => true
  | 101 => true
  | 102 => true
  | 103 => true
  | _ => false
def cpyL (v0 v1 : List Value) (sp dp n : Nat) : List Value := (List.range v1.length).map (va_cpy (vp_V v0) (vp_V v1) sp dp n)
def nullAt (h : AH) (a t k : Nat) (nx : Prop) : Prop := ∃ vs : List Value, at_ h a t vs ∧ vs[k]? = some .null ∧ nx
def gfk (kd : Nat) (h : AH) (a t k : Nat) (nx : Value → Prop) : Prop := match kd with
  | 0 => ∃ (vs : List Value) (x : Int32), at_ h a t vs ∧ vs[k]? = some (.int x) ∧ nx (.int x)
  | 1 => ∃ (vs : List Value) (b : Nat), at_ h a t vs ∧ vs[k]? = some (.ref b) ∧ nx (.ref b)
  | 2 => (∃ vs : List Value, at_ h a t vs ∧ vs[k]? = some .null ∧ nx .null) ∨ ∃ (vs : List Value) (b : Nat), at_ h a t vs ∧ vs[k]? = some (.ref b) ∧ nx (.ref b)
  | _ => False
def rvk (rk : Nat) (rv : Option Value) (s' : List Value) (nx : List Value → Prop) : Prop := match rk with
  | 0 => rv = none ∧ nx s'
  | 1 => ∃ x : Int32, rv = some (.int x) ∧ nx (.int x :: s')
  | 2 => ∃ b : Nat, rv = some (.ref b) ∧ nx (.ref b :: s')
  | 3 => ∃ x : Int64, rv = some (.long x) ∧ nx (.long x :: s')
  | 5 => (rv = some .null ∧ nx (.null :: s')) ∨ ∃ b : Nat, rv = some (.ref b) ∧ nx (.ref b :: s')
  | _ => False
def ifI (c : ClassFile.Cond) (x y : Int32) (A B : Prop) : Prop := match c with
  | .eq => (x = y → A) ∧ (¬ x = y → B)
  | .ne => (¬ x = y → A) ∧ (x = y → B)
  | .lt => (x < y → A) ∧ (¬ x < y → B)
  | .ge => (y ≤ x → A) ∧ (¬ y ≤ x → B)
  | .gt => (y < x → A) ∧ (¬ y < x → B)
  | .le => (x ≤ y → A) ∧ (¬ x ≤ y → B)
def dflM : List Value := [.null, .null, .null, .null, .null, .null, .null, .null, .int 0, .null, .null, .null, .int 0, .null, .null, .null, .null, .null, .null, .null, .null, .null, .null, .null, .null, .null, .null, .null, .null, .null, .null, .int 0, .int 0, .null, .null, .null, .null, .null, .int 0, .int 0, .int 0, .null, .null]
/-- a class's new object -/
def dfl : Nat → List Value
  | 1 => [.int 0, .int 0, .int 0]
  | 2 => [.int 0, .int 0, .int 0, .null, .null]
  | 3 => [.int 0, .int 0]
  | 4 => [.null, .int 0, .int 0, .int 0, .int 0, .int 0]
  | 5 => [.int 0, .null, .int 0]
  | 6 => [.int 0, .int 0, .int 0]
  | 7 => [.int 0, .int 0, .int 0, .int 0]
  | 8 => [.int 0, .int 0, .int 0, .int 0, .null, .null]
  | 9 => [.null, .null, .null, .null, .null, .int 0, .int 0, .int 0]
  | 10 => [.int 0, .null, .int 0]
  | 11 => dflM
  | _ => []
/-- what a block does from a place on: E the methods that it calls, K what is known of other places, q what is to hold at a return; gc 0 the class object of Object[], gc 1 the list of no places, gc 2 the script -/
def wpb (gc : Nat → Nat) (E : Nat → List Value → AH → PT → Prop) (K : KT) (q : PT) : List Ins → Nat → List Value → List Value → AH → Prop
  | [], pc, L, st, h => K pc L st h
  | (i, n, an) :: r, pc, L, st, h => match i with
    | .aconst_null => wpb gc E K q r (pc + n) L (.null :: st) h
    | .iconst v => wpb gc E K q r (pc + n) L (.int (Int32.ofInt v) :: st) h
    | .bipush v => wpb gc E K q r (pc + n) L (.int (Int8.ofInt v).toInt32 :: st) h
    | .sipush v => wpb gc E K q r (pc + n) L (.int (Int16.ofInt v).toInt32 :: st) h
    | .lconst v => wpb gc E K q r (pc + n) L (.long (Int64.ofNat v.val) :: st) h
    | .ldc _ => match an with
      | [v, _] => wpb gc E K q r (pc + n) L (.int (Int32.ofNat v) :: st) h
      | [_] => wpb gc E K q r (pc + n) L (.ref (gc 0) :: st) h
      | _ => False
    | .ldc_w _ => match an with
      | [v, _] => wpb gc E K q r (pc + n) L (.int (Int32.ofNat v) :: st) h
      | _ => False
    | .ldc2_w _ => match an with
      | [v, _] => wpb gc E K q r (pc + n) L (.long (Int64.ofNat v) :: st) h
      | _ => False
    | .iload x => match L[x]? with
      | some (.int v) => wpb gc E K q r (pc + n) L (.int v :: st) h
      | _ => False
    | .iload_n x => match L[x.val]? with
      | some (.int v) => wpb gc E K q r (pc + n) L (.int v :: st) h
      | _ => False
    | .aload x => match L[x]? with
      | some (.ref v) => wpb gc E K q r (pc + n) L (.ref v :: st) h
      | some .null => wpb gc E K q r (pc + n) L (.null :: st) h
      | _ => False
    | .aload_n x => match L[x.val]? with
      | some (.ref v) => wpb gc E K q r (pc + n) L (.ref v :: st) h
      | some .null => wpb gc E K q r (pc + n) L (.null :: st) h
      | _ => False
    | .istore x => match st with
      | .int v :: s' => wpb gc E K q r (pc + n) (L.set x (.int v)) s' h
      | _ => False
    | .istore_n x => match st with
      | .int v :: s' => wpb gc E K q r (pc + n) (L.set x.val (.int v)) s' h
      | _ => False
    | .astore x => match st with
      | .ref v :: s' => wpb gc E K q r (pc + n) (L.set x (.ref v)) s' h
      | .null :: s' => wpb gc E K q r (pc + n) (L.set x .null) s' h
      | _ => False
    | .astore_n x => match st with
      | .ref v :: s' => wpb gc E K q r (pc + n) (L.set x.val (.ref v)) s' h
      | .null :: s' => wpb gc E K q r (pc + n) (L.set x.val .null) s' h
      | _ => False
    | .iinc x k => match L[x]? with
      | some (.int v) => wpb gc E K q r (pc + n) (L.set x (.int (v + Int32.ofInt k))) st h
      | _ => False
    | .iadd => match st with
      | .int y :: .int x :: s' => wpb gc E K q r (pc + n) L (.int (x + y) :: s') h
      | _ => False
    | .isub => match st with
      | .int y :: .int x :: s' => wpb gc E K q r (pc + n) L (.int (x - y) :: s') h
      | _ => False
    | .imul => match st with
      | .int y :: .int x :: s' => wpb gc E K q r (pc + n) L (.int (x * y) :: s') h
      | _ => False
    | .iand => match st with
      | .int y :: .int x :: s' => wpb gc E K q r (pc + n) L (.int (x &&& y) :: s') h
      | _ => False
    | .ior => match st with
      | .int y :: .int x :: s' => wpb gc E K q r (pc + n) L (.int (x ||| y) :: s') h
      | _ => False
    | .ishl => match st with
      | .int y :: .int x :: s' => wpb gc E K q r (pc + n) L (.int (x <<< (y &&& 31)) :: s') h
      | _ => False
    | .ishr => match st with
      | .int y :: .int x :: s' => wpb gc E K q r (pc + n) L (.int (x >>> (y &&& 31)) :: s') h
      | _ => False
    | .iushr => match st with
      | .int y :: .int x :: s' => wpb gc E K q r (pc + n) L (.int (x.toUInt32 >>> (y.toUInt32 &&& Int32.toUInt32 31)).toInt32 :: s') h
      | _ => False
    | .irem => match st with
      | .int y :: .int x :: s' => ¬ y = 0 ∧ wpb gc E K q r (pc + n) L (.int (x - x / y * y) :: s') h
      | _ => False
    | .ineg => match st with
      | .int x :: s' => wpb gc E K q r (pc + n) L (.int (-x) :: s') h
      | _ => False
    | .i2l => match st with
      | .int x :: s' => wpb gc E K q r (pc + n) L (.long x.toInt64 :: s') h
      | _ => False
    | .lcmp => match st with
      | .long y :: .long x :: s' => wpb gc E K q r (pc + n) L (.int (lg_cmp x y) :: s') h
      | _ => False
    | .pop => match st with
      | v :: s' => match c1_ v with
        | true => wpb gc E K q r (pc + n) L s' h
        | false => False
      | _ => False
    | .dup => match st with
      | v :: s' => match c1_ v with
        | true => wpb gc E K q r (pc + n) L (v :: v :: s') h
        | false => False
      | _ => False
    | .dup_x1 => match st with
      | v :: w :: s' => match c1_ v, c1_ w with
        | true, true => wpb gc E K q r (pc + n) L (v :: w :: v :: s') h
        | _, _ => False
      | _ => False
    | .dup2 => match st with
      | v :: w :: s' => match c1_ v, c1_ w with
        | true, true => wpb gc E K q r (pc + n) L (v :: w :: v :: w :: s') h
        | _, _ => False
      | _ => False
    | .ifCond c _ => match an, st with
      | [t], .int x :: s' => ifI c x 0 (K t L s' h) (wpb gc E K q r (pc + n) L s' h)
      | _, _ => False
    | .if_icmp c _ => match an, st with
      | [t], .int y :: .int x :: s' => ifI c x y (K t L s' h) (wpb gc E K q r (pc + n) L s' h)
      | _, _ => False
    | .if_acmp c _ => match c, an, st with
      | .eq, [t], .ref y :: .ref x :: s' => (x = y → K t L s' h) ∧ (¬ x = y → wpb gc E K q r (pc + n) L s' h)
      | .ne, [t], .ref y :: .ref x :: s' => (¬ x = y → K t L s' h) ∧ (x = y → wpb gc E K q r (pc + n) L s' h)
      | _, _, _ => False
    | .ifnonnull _ => match an, st with
      | [t], .ref _ :: s' => K t L s' h
      | [_], .null :: s' => wpb gc E K q r (pc + n) L s' h
      | _, _ => False
    | .goto _ => match an with
      | [t] => K t L st h
      | _ => False
    | .tableswitch _ lo hi _ => match an, st with
      | d :: ts, .int x :: s' => ((x.toInt < lo ∨ hi < x.toInt) → K d L s' h) ∧ ∀ (j t : Nat), ts[j]? = some t → x.toInt = lo + j → K t L s' h
      | _, _ => False
    | .getfield _ => match an, st with
      | [t, k, _, kd], .ref a :: s' => gfk kd h a t k (fun v => wpb gc E K q r (pc + n) L (v :: s') h)
      | _, _ => False
    | .putfield _ => match an, st with
      | [t, k, _, kd], v :: .ref a :: s' => ∃ vs : List Value, at_ h a t vs ∧ k < vs.length ∧ pvk kd v ∧ ∀ h' : AH, h' = ah_set h a (t, vs.set k v) → wpb gc E K q r (pc + n) L s' h'
      | _, _ => False
    | .getstatic _ => match an with
      | [_] => wpb gc E K q r (pc + n) L (.ref (gc 1) :: st) h
      | _ => False
    | .new _ => match an with
      | [t, _] => 1 ≤ h.2.1 ∧ (dfl t).length ≤ h.2.2.1 ∧ ∀ (a : Nat) (h' : AH), a = h.1 → h' = ah_new h (t, dfl t) → wpb gc E K q r (pc + n) L (.ref a :: st) h'
      | _ => False
    | .newarray _ => match an, st with
      | [t], .int x :: s' => ¬ x < 0 ∧ 1 ≤ h.2.1 ∧ x.toNatClampNeg ≤ h.2.2.1 ∧ x.toNatClampNeg ≤ 100000 ∧ ∀ (a : Nat) (h' : AH), a = h.1 → h' = ah_new h (t, List.replicate x.toNatClampNeg (.int 0)) → wpb gc E K q r (pc + n) L (.ref a :: s') h'
      | _, _ => False
    | .anewarray _ => match an, st with
      | [t, _], .int x :: s' => ¬ x < 0 ∧ 1 ≤ h.2.1 ∧ x.toNatClampNeg ≤ h.2.2.1 ∧ x.toNatClampNeg ≤ 100000 ∧ ∀ (a : Nat) (h' : AH), a = h.1 → h' = ah_new h (t, List.replicate x.toNatClampNeg .null) → wpb gc E K q r (pc + n) L (.ref a :: s') h'
      | _, _ => False
    | .arraylength => match st with
      | .ref a :: s' => ∃ (t : Nat) (vs : List Value), at_ h a t vs ∧ ((100 ≤ t ∧ t < 200) ∨ (t = 200 ∧ a = gc 2) ∨ (t = 201 ∧ a = gc 1 ∧ vs = [])) ∧ wpb gc E K q r (pc + n) L (.int (Int32.ofNat vs.length) :: s') h
      | _ => False
    | .iaload => match st with
      | .int i :: .ref a :: s' => ∃ (t : Nat) (vs : List Value) (x : Int32), at_ h a t vs ∧ (t = 104 ∨ (t = 200 ∧ a = gc 2)) ∧ ¬ i < 0 ∧ vs[i.toNatClampNeg]? = some (.int x) ∧ wpb gc E K q r (pc + n) L (.int x :: s') h
      | _ => False
    | .baload => match st with
      | .int i :: .ref a :: s' => ∃ (vs : List Value) (x : Int32), at_ h a 105 vs ∧ ¬ i < 0 ∧ vs[i.toNatClampNeg]? = some (.int x) ∧ wpb gc E K q r (pc + n) L (.int x :: s') h
      | _ => False
    | .aaload => match st with
      | .int i :: .ref a :: s' => ∃ (t : Nat) (vs : List Value) (b : Nat), at_ h a t vs ∧ isRA t = true ∧ ¬ i < 0 ∧ vs[i.toNatClampNeg]? = some (.ref b) ∧ wpb gc E K q r (pc + n) L (.ref b :: s') h
      | _ => False
    | .iastore => match st with
      | .int x :: .int i :: .ref a :: s' => ∃ vs : List Value, at_ h a 104 vs ∧ ¬ i < 0 ∧ i.toNatClampNeg < vs.length ∧ ∀ h' : AH, h' = ah_set h a (104, vs.set i.toNatClampNeg (.int x)) → wpb gc E K q r (pc + n) L s' h'
      | _ => False
    | .bastore => match st with
      | .int x :: .int i :: .ref a :: s' => ∃ vs : List Value, at_ h a 105 vs ∧ ¬ i < 0 ∧ i.toNatClampNeg < vs.length ∧ (x = 0 ∨ x = 1) ∧ ∀ h' : AH, h' = ah_set h a (105, vs.set i.toNatClampNeg (.int x)) → wpb gc E K q r (pc + n) L s' h'
      | _ => False
    | .aastore => match st with
      | .ref b :: .int i :: .ref a :: s' => ∃ (t tb : Nat) (vs ws : List Value), at_ h a t vs ∧ at_ h b tb ws ∧ asg t tb = true ∧ ¬ i < 0 ∧ i.toNatClampNeg < vs.length ∧ ∀ h' : AH, h' = ah_set h a (t, vs.set i.toNatClampNeg (.ref b)) → wpb gc E K q r (pc + n) L s' h'
      | .null :: .int i :: .ref a :: s' => ∃ (t : Nat) (vs : List Value), at_ h a t vs ∧ isRA t = true ∧ ¬ i < 0 ∧ i.toNatClampNeg < vs.length ∧ ∀ h' : AH, h' = ah_set h a (t, vs.set i.toNatClampNeg .null) → wpb gc E K q r (pc + n) L s' h'
      | _ => False
    | .checkcast _ => match an, st with
      | [t, _, _], .ref a :: s' => ∃ vs : List Value, at_ h a t vs ∧ wpb gc E K q r (pc + n) L (.ref a :: s') h
      | _, _ => False
    | .invokevirtual _ => match an with
      | [j, na, rk, _, tC] => match Nat.ble (na + 1) st.length, Nat.ble (st.drop (na + 1)).length 4, st[na]? with
        | true, true, some (.ref b) => (∃ vs : List Value, at_ h b tC vs) ∧ ∃ Q : PT, E j (st.take (na + 1)).reverse h Q ∧ ∀ (rv : Option Value) (h' : AH), Q rv h' → rvk rk rv (st.drop (na + 1)) (fun s' => wpb gc E K q r (pc + n) L s' h')
        | _, _, _ => False
      | [_] => match st with
        | .ref a :: s' => match Nat.ble s'.length 4 with
          | true => (∃ vs : List Value, at_ h a 103 vs) ∧ wpb gc E K q r (pc + n) L (.ref (gc 0) :: s') h
          | false => False
        | _ => False
      | _ => False
    | .invokespecial _ => match an with
      | [j, na, rk, _, _] => match Nat.ble (na + 1) st.length, Nat.ble (st.drop (na + 1)).length 4, st[na]? with
        | true, true, some (.ref _) => ∃ Q : PT, E j (st.take (na + 1)).reverse h Q ∧ ∀ (rv : Option Value) (h' : AH), Q rv h' → rvk rk rv (st.drop (na + 1)) (fun s' => wpb gc E K q r (pc + n) L s' h')
        | _, _, _ => False
      | [_] => match st with
        | .ref _ :: s' => match Nat.ble s'.length 4 with
          | true => wpb gc E K q r (pc + n) L s' h
          | false => False
        | _ => False
      | _ => False
    | .invokestatic _ => match an with
      | [j, na, rk, _] => match Nat.ble na st.length, Nat.ble (st.drop na).length 4 with
        | true, true => ∃ Q : PT, E j (st.take na).reverse h Q ∧ ∀ (rv : Option Value) (h' : AH), Q rv h' → rvk rk rv (st.drop na) (fun s' => wpb gc E K q r (pc + n) L s' h')
        | _, _ => False
      | [0, _] => match st with
        | .int y :: .int x :: s' => match Nat.ble s'.length 4 with
          | true => wpb gc E K q r (pc + n) L (.int (if x < y then y else x) :: s') h
          | false => False
        | _ => False
      | [1, _] => match st with
        | .int y :: .int x :: s' => match Nat.ble s'.length 4 with
          | true => wpb gc E K q r (pc + n) L (.int (if y < x then y else x) :: s') h
          | false => False
        | _ => False
      | [2, _] => match st with
        | .int k :: .int dp :: .ref a :: .int sp :: .ref a0 :: s' => match Nat.ble s'.length 4 with
          | true => ∃ v0 v1 : List Value, at_ h a0 103 v0 ∧ at_ h a 103 v1 ∧ ¬ sp < 0 ∧ ¬ dp < 0 ∧ ¬ k < 0 ∧ sp.toNatClampNeg + k.toNatClampNeg ≤ v0.length ∧ dp.toNatClampNeg + k.toNatClampNeg ≤ v1.length ∧ 1 ≤ v1.length ∧
            (∀ v ∈ v0, v = .null ∨ ∃ (y ty : Nat) (vs : List Value), v = .ref y ∧ at_ h y ty vs ∧ asg 103 ty = true) ∧
            ∀ h' : AH, h' = ah_set h a (103, cpyL v0 v1 sp.toNatClampNeg dp.toNatClampNeg k.toNatClampNeg) → wpb gc E K q r (pc + n) L s' h'
          | false => False
        | _ => False
      | _ => False
    | .ireturn => match an, st with
      | [0], [.int x] => q (some (.int x)) h
      | [4], [.int x] => (x = 0 ∨ x = 1) ∧ q (some (.int x)) h
      | _, _ => False
    | .lreturn => match st with
      | [.long x] => q (some (.long x)) h
      | _ => False
    | .areturn => match st with
      | [.ref x] => q (some (.ref x)) h
      | [.null] => q (some .null) h
      | _ => False
    | .return_ => match st with
      | [] => q none h
      | _ => False
    | _ => False
/-- from a place on: the least predicate that the blocks allow -/
def Tf (gc : Nat → Nat) (E : Nat → List Value → AH → PT → Prop) (bks : List (Nat × List Ins)) (q : PT) : KT := fun pc L st h =>
  ∀ P : KT, (∀ (pc : Nat) (L st : List Value) (h : AH), (∃ K : KT, (∀ (pc : Nat) (L st : List Value) (h : AH), K pc L st h → P pc L st h) ∧ wpb gc E K q (lkb bks pc) pc L st h) → P pc L st h) → P pc L st h
theorem Tf_fold {gc : Nat → Nat} {E : Nat → List Value → AH → PT → Prop} {bks : List (Nat × List Ins)} {q : PT} {pc : Nat} {L st : List Value} {h : AH} (hw : wpb gc E (Tf gc E bks q) q (lkb bks pc) pc L st h) : Tf gc E bks q pc L st h :=
  fun P hP => hP _ _ _ _ ⟨Tf gc E bks q, fun _ _ _ _ hT => hT P hP, hw⟩
end
section
def qT_0 : u_T := fun k => match k with
  | 0 => ("QueueBroker$Binding", "exchange", "I", true)
  | 1 => ("QueueBroker$Binding", "queue", "I", true)
  | _ => ("QueueBroker$Binding", "pattern", "I", true)
def qT_1 : u_T := fun k => match k with
  | 0 => ("QueueBroker$Channel", "prefetch", "I", false)
  | 1 => ("QueueBroker$Channel", "inTransaction", "Z", false)
  | 2 => ("QueueBroker$Channel", "lastTag", "I", false)
  | 3 => ("QueueBroker$Channel", "holding", "Ljava/util/ArrayList;", true)
  | _ => ("QueueBroker$Channel", "deeds", "Ljava/util/ArrayList;", true)
def qT_2 : u_T := fun k => match k with
  | 0 => ("QueueBroker$Consumer", "channel", "I", true)
  | _ => ("QueueBroker$Consumer", "automatic", "Z", true)
def qT_3 : u_T := fun k => match k with
  | 0 => ("QueueBroker$Copy", "message", "LQueueBroker$Message;", true)
  | 1 => ("QueueBroker$Copy", "queue", "I", true)
  | 2 => ("QueueBroker$Copy", "place", "I", true)
  | 3 => ("QueueBroker$Copy", "returned", "Z", false)
  | 4 => ("QueueBroker$Copy", "tag", "I", false)
  | _ => ("QueueBroker$Copy", "deed", "I", false)
def qT_4 : u_T := fun k => match k with
  | 0 => ("QueueBroker$Deed", "exchange", "I", true)
  | 1 => ("QueueBroker$Deed", "message", "LQueueBroker$Message;", true)
  | _ => ("QueueBroker$Deed", "how", "I", true)
def qT_5 : u_T := fun k => match k with
  | 0 => ("QueueBroker$Exchange", "declared", "Z", false)
  | 1 => ("QueueBroker$Exchange", "type", "I", false)
  | _ => ("QueueBroker$Exchange", "durable", "Z", false)
def qT_6 : u_T := fun k => match k with
  | 0 => ("QueueBroker$Message", "body", "I", true)
  | 1 => ("QueueBroker$Message", "key", "I", true)
  | 2 => ("QueueBroker$Message", "hops", "I", true)
  | _ => ("QueueBroker$Message", "persistent", "Z", true)
def qT_7 : u_T := fun k => match k with
  | 0 => ("QueueBroker$Queue", "declared", "Z", false)
  | 1 => ("QueueBroker$Queue", "limit", "I", false)
  | 2 => ("QueueBroker$Queue", "dead", "I", false)
  | 3 => ("QueueBroker$Queue", "durable", "Z", false)
  | 4 => ("QueueBroker$Queue", "waiting", "Ljava/util/ArrayList;", true)
  | _ => ("QueueBroker$Queue", "row", "Ljava/util/ArrayList;", true)
def qT_8 : u_T := fun k => match k with
  | 0 => ("QueueBroker", "exchanges", "[LQueueBroker$Exchange;", true)
  | 1 => ("QueueBroker", "queues", "[LQueueBroker$Queue;", true)
  | 2 => ("QueueBroker", "channels", "[LQueueBroker$Channel;", true)
  | 3 => ("QueueBroker", "bindings", "Ljava/util/ArrayList;", true)
  | 4 => ("QueueBroker", "letters", "Ljava/util/ArrayList;", true)
  | 5 => ("QueueBroker", "lastPlace", "I", false)
  | 6 => ("QueueBroker", "lettersRouted", "I", false)
  | _ => ("QueueBroker", "lettersLost", "I", false)
def qT_9 : u_T := fun k => match k with
  | 0 => ("java/util/AbstractList", "modCount", "I", false)
  | 1 => ("java/util/ArrayList", "elementData", "[Ljava/lang/Object;", false)
  | _ => ("java/util/ArrayList", "size", "I", false)
def qT_10 : u_T := fun k => match k with
  | 0 => ("QueueBrokerModel", "type", "[I", true)
  | 1 => ("QueueBrokerModel", "limit", "[I", true)
  | 2 => ("QueueBrokerModel", "dead", "[I", true)
  | 3 => ("QueueBrokerModel", "eDurable", "[Z", true)
  | 4 => ("QueueBrokerModel", "qDurable", "[Z", true)
  | 5 => ("QueueBrokerModel", "bE", "[I", true)
  | 6 => ("QueueBrokerModel", "bQ", "[I", true)
  | 7 => ("QueueBrokerModel", "bPattern", "[I", true)
  | 8 => ("QueueBrokerModel", "bindings", "I", false)
  | 9 => ("QueueBrokerModel", "cQueue", "[I", true)
  | 10 => ("QueueBrokerModel", "cChannel", "[I", true)
  | 11 => ("QueueBrokerModel", "cAutomatic", "[Z", true)
  | 12 => ("QueueBrokerModel", "consumers", "I", false)
  | 13 => ("QueueBrokerModel", "prefetch", "[I", true)
  | 14 => ("QueueBrokerModel", "lastTag", "[I", true)
  | 15 => ("QueueBrokerModel", "deeds", "[I", true)
  | 16 => ("QueueBrokerModel", "transaction", "[Z", true)
  | 17 => ("QueueBrokerModel", "dE", "[I", true)
  | 18 => ("QueueBrokerModel", "dKey", "[I", true)
  | 19 => ("QueueBrokerModel", "dBody", "[I", true)
  | 20 => ("QueueBrokerModel", "dWhat", "[I", true)
  | 21 => ("QueueBrokerModel", "body", "[I", true)
  | 22 => ("QueueBrokerModel", "key", "[I", true)
  | 23 => ("QueueBrokerModel", "hops", "[I", true)
  | 24 => ("QueueBrokerModel", "queue", "[I", true)
  | 25 => ("QueueBrokerModel", "place", "[I", true)
  | 26 => ("QueueBrokerModel", "holder", "[I", true)
  | 27 => ("QueueBrokerModel", "tag", "[I", true)
  | 28 => ("QueueBrokerModel", "deed", "[I", true)
  | 29 => ("QueueBrokerModel", "persistent", "[Z", true)
  | 30 => ("QueueBrokerModel", "returned", "[Z", true)
  | 31 => ("QueueBrokerModel", "copies", "I", false)
  | 32 => ("QueueBrokerModel", "places", "I", false)
  | 33 => ("QueueBrokerModel", "lBody", "[I", true)
  | 34 => ("QueueBrokerModel", "lKey", "[I", true)
  | 35 => ("QueueBrokerModel", "lHops", "[I", true)
  | 36 => ("QueueBrokerModel", "lDead", "[I", true)
  | 37 => ("QueueBrokerModel", "lPersistent", "[Z", true)
  | 38 => ("QueueBrokerModel", "letters", "I", false)
  | 39 => ("QueueBrokerModel", "routed", "I", false)
  | 40 => ("QueueBrokerModel", "lost", "I", false)
  | 41 => ("QueueBrokerModel", "fit", "[Z", true)
  | _ => ("QueueBrokerModel", "chosen", "[Z", true)
def vwc : List vw_C := [("QueueBroker$Binding", qT_0, 3), ("QueueBroker$Channel", qT_1, 5), ("QueueBroker$Consumer", qT_2, 2), ("QueueBroker$Copy", qT_3, 6), ("QueueBroker$Deed", qT_4, 3), ("QueueBroker$Exchange", qT_5, 3), ("QueueBroker$Message", qT_6, 4), ("QueueBroker$Queue", qT_7, 6), ("QueueBroker", qT_8, 8), ("java/util/ArrayList", qT_9, 3), ("QueueBrokerModel", qT_10, 43)]
def aks : List FieldType := [.object "QueueBroker$Exchange", .object "QueueBroker$Queue", .object "QueueBroker$Channel", .object "java/lang/Object", .int, .boolean]
def mI : List (MethodName × ByteArray × Nat × Option FieldType × Nat × Nat × Nat × Nat × Nat) := [
  (⟨"QueueBroker", "<init>", "()V"⟩, prog_1_method_1_code, 2, (Option.none : Option FieldType), 1, 73, 72, 0, 50),
  (⟨"java/util/ArrayList", "<init>", "()V"⟩, prog_19_method_2_code, 1, (Option.none : Option FieldType), 1, 87, 86, 0, 53),
  (⟨"java/util/AbstractList", "<init>", "()V"⟩, prog_18_method_1_code, 1, (Option.none : Option FieldType), 1, 90, 89, 0, 52),
  (⟨"java/util/AbstractCollection", "<init>", "()V"⟩, prog_17_method_1_code, 1, (Option.none : Option FieldType), 1, 93, 92, 0, 51),
  (⟨"QueueBroker$Exchange", "<init>", "()V"⟩, prog_7_method_1_code, 1, (Option.none : Option FieldType), 1, 112, 111, 0, 54),
  (⟨"QueueBroker$Queue", "<init>", "()V"⟩, prog_9_method_1_code, 1, (Option.none : Option FieldType), 1, 130, 129, 0, 55),
  (⟨"QueueBroker$Channel", "<init>", "()V"⟩, prog_3_method_1_code, 1, (Option.none : Option FieldType), 1, 162, 161, 0, 56),
  (⟨"QueueBroker", "exchange", "(IIZ)I"⟩, prog_1_method_2_code, 5, (Option.some FieldType.int), 4, 214, 212, 213, 50),
  (⟨"QueueBroker", "isWithin", "(III)Z"⟩, prog_1_method_21_code, 3, (Option.some FieldType.boolean), 3, 217, 216, 0, 50),
  (⟨"QueueBroker", "queue", "(IIIZ)I"⟩, prog_1_method_3_code, 6, (Option.some FieldType.int), 5, 221, 219, 220, 50),
  (⟨"QueueBroker", "bind", "(III)I"⟩, prog_1_method_4_code, 4, (Option.some FieldType.int), 4, 225, 223, 224, 50),
  (⟨"QueueBroker", "isDeclaredExchange", "(I)Z"⟩, prog_1_method_23_code, 2, (Option.some FieldType.boolean), 2, 229, 228, 0, 50),
  (⟨"QueueBroker", "isDeclaredQueue", "(I)Z"⟩, prog_1_method_24_code, 2, (Option.some FieldType.boolean), 2, 233, 232, 1, 50),
  (⟨"QueueBroker", "isPattern", "(I)Z"⟩, prog_1_method_27_code, 2, (Option.some FieldType.boolean), 1, 236, 235, 0, 50),
  (⟨"QueueBroker", "countItems", "(I)I"⟩, prog_1_method_26_code, 2, (Option.some FieldType.int), 1, 239, 238, 0, 50),
  (⟨"QueueBroker", "itemAt", "(II)I"⟩, prog_1_method_25_code, 2, (Option.some FieldType.int), 2, 242, 241, 0, 50),
  (⟨"QueueBroker", "findBinding", "(III)I"⟩, prog_1_method_31_code, 6, (Option.some FieldType.int), 4, 246, 245, 2, 50),
  (⟨"java/util/ArrayList", "size", "()I"⟩, prog_19_method_8_code, 1, (Option.some FieldType.int), 1, 250, 248, 249, 53),
  (⟨"java/util/ArrayList", "get", "(I)Ljava/lang/Object;"⟩, prog_19_method_20_code, 2, (Option.some (FieldType.object "java/lang/Object")), 2, 254, 252, 253, 53),
  (⟨"java/util/Objects", "checkIndex", "(II)I"⟩, prog_23_method_17_code, 2, (Option.some FieldType.int), 2, 257, 256, 0, 58),
  (⟨"jdk/internal/util/Preconditions", "checkIndex", "(IILjava/util/function/BiFunction;)I"⟩, prog_27_method_11_code, 3, (Option.some FieldType.int), 3, 260, 259, 0, 59),
  (⟨"java/util/ArrayList", "elementData", "(I)Ljava/lang/Object;"⟩, prog_19_method_18_code, 2, (Option.some (FieldType.object "java/lang/Object")), 2, 264, 262, 263, 53),
  (⟨"QueueBroker$Binding", "<init>", "(III)V"⟩, prog_2_method_1_code, 4, (Option.none : Option FieldType), 4, 269, 268, 0, 60),
  (⟨"java/util/ArrayList", "add", "(Ljava/lang/Object;)Z"⟩, prog_19_method_25_code, 2, (Option.some FieldType.boolean), 2, 287, 285, 286, 53),
  (⟨"java/util/ArrayList", "add", "(Ljava/lang/Object;[Ljava/lang/Object;I)V"⟩, prog_19_method_24_code, 4, (Option.none : Option FieldType), 4, 291, 290, 3, 53),
  (⟨"java/util/ArrayList", "grow", "()[Ljava/lang/Object;"⟩, prog_19_method_7_code, 1, (Option.some (FieldType.array (FieldType.object "java/lang/Object"))), 1, 295, 294, 4, 53),
  (⟨"java/util/ArrayList", "grow", "(I)[Ljava/lang/Object;"⟩, prog_19_method_6_code, 4, (Option.some (FieldType.array (FieldType.object "java/lang/Object"))), 2, 299, 298, 5, 53),
  (⟨"jdk/internal/util/ArraysSupport", "newLength", "(III)I"⟩, prog_26_method_27_code, 4, (Option.some FieldType.int), 3, 302, 301, 0, 61),
  (⟨"jdk/internal/util/ArraysSupport", "hugeLength", "(II)I"⟩, prog_26_method_28_code, 3, (Option.some FieldType.int), 2, 309, 308, 0, 61),
  (⟨"java/util/Arrays", "copyOf", "([Ljava/lang/Object;I)[Ljava/lang/Object;"⟩, prog_20_method_119_code, 2, (Option.some (FieldType.array (FieldType.object "java/lang/Object"))), 2, 312, 311, 0, 63),
  (⟨"java/util/Arrays", "copyOf", "([Ljava/lang/Object;ILjava/lang/Class;)[Ljava/lang/Object;"⟩, prog_20_method_120_code, 4, (Option.some (FieldType.array (FieldType.object "java/lang/Object"))), 3, 330, 329, 0, 63),
  (⟨"QueueBroker", "unbind", "(III)I"⟩, prog_1_method_5_code, 5, (Option.some FieldType.int), 4, 345, 343, 344, 50),
  (⟨"java/util/ArrayList", "remove", "(I)Ljava/lang/Object;"⟩, prog_19_method_29_code, 4, (Option.some (FieldType.object "java/lang/Object")), 2, 349, 347, 348, 53),
  (⟨"java/util/ArrayList", "fastRemove", "([Ljava/lang/Object;I)V"⟩, prog_19_method_39_code, 4, (Option.none : Option FieldType), 3, 353, 352, 6, 53),
  (⟨"QueueBroker", "drop", "(I)I"⟩, prog_1_method_6_code, 2, (Option.some FieldType.int), 2, 358, 356, 357, 50),
  (⟨"QueueBroker", "forgetQueue", "(I)I"⟩, prog_1_method_46_code, 4, (Option.some FieldType.int), 2, 362, 361, 7, 50),
  (⟨"QueueBroker$Channel", "letGoOf", "(I)I"⟩, prog_3_method_6_code, 4, (Option.some FieldType.int), 2, 366, 364, 365, 56),
  (⟨"QueueBroker$Queue", "reset", "()V"⟩, prog_9_method_6_code, 1, (Option.none : Option FieldType), 1, 374, 372, 373, 55),
  (⟨"java/util/ArrayList", "clear", "()V"⟩, prog_19_method_40_code, 4, (Option.none : Option FieldType), 1, 378, 376, 377, 53),
  (⟨"QueueBroker", "publish", "(IIIII)I"⟩, prog_1_method_7_code, 9, (Option.some FieldType.int), 6, 382, 380, 381, 50),
  (⟨"QueueBroker", "isChannel", "(I)Z"⟩, prog_1_method_22_code, 1, (Option.some FieldType.boolean), 1, 385, 384, 0, 50),
  (⟨"QueueBroker", "isKey", "(I)Z"⟩, prog_1_method_28_code, 2, (Option.some FieldType.boolean), 1, 388, 387, 0, 50),
  (⟨"QueueBroker$Message", "<init>", "(IIIZ)V"⟩, prog_8_method_1_code, 5, (Option.none : Option FieldType), 5, 393, 392, 0, 65),
  (⟨"QueueBroker$Deed", "<init>", "(ILQueueBroker$Message;I)V"⟩, prog_6_method_1_code, 4, (Option.none : Option FieldType), 4, 417, 416, 0, 66),
  (⟨"QueueBroker", "countChosen", "(II)I"⟩, prog_1_method_34_code, 5, (Option.some FieldType.int), 3, 435, 434, 8, 50),
  (⟨"QueueBroker", "isChosen", "(III)Z"⟩, prog_1_method_33_code, 7, (Option.some FieldType.boolean), 4, 439, 438, 9, 50),
  (⟨"QueueBroker", "isMatch", "(II)Z"⟩, prog_1_method_29_code, 7, (Option.some FieldType.boolean), 2, 442, 441, 0, 50),
  (⟨"QueueBroker", "reachFurther", "(III)I"⟩, prog_1_method_30_code, 5, (Option.some FieldType.int), 3, 445, 444, 0, 50),
  (⟨"QueueBroker", "route", "(ILQueueBroker$Message;)V"⟩, prog_1_method_35_code, 4, (Option.none : Option FieldType), 3, 449, 448, 10, 50),
  (⟨"QueueBroker", "put", "(ILQueueBroker$Message;)V"⟩, prog_1_method_36_code, 5, (Option.none : Option FieldType), 3, 453, 452, 11, 50),
  (⟨"QueueBroker$Copy", "<init>", "(LQueueBroker$Message;II)V"⟩, prog_5_method_1_code, 4, (Option.none : Option FieldType), 4, 458, 457, 0, 67),
  (⟨"QueueBroker$Queue", "insert", "(LQueueBroker$Copy;)V"⟩, prog_9_method_2_code, 3, (Option.none : Option FieldType), 2, 492, 490, 491, 55),
  (⟨"java/util/ArrayList", "add", "(ILjava/lang/Object;)V"⟩, prog_19_method_26_code, 5, (Option.none : Option FieldType), 3, 499, 497, 498, 53),
  (⟨"java/util/ArrayList", "rangeCheckForAdd", "(I)V"⟩, prog_19_method_45_code, 2, (Option.none : Option FieldType), 2, 503, 502, 12, 53),
  (⟨"QueueBroker", "routeLetters", "()V"⟩, prog_1_method_37_code, 4, (Option.none : Option FieldType), 1, 507, 506, 13, 50),
  (⟨"QueueBroker", "canGoOn", "(LQueueBroker$Copy;)Z"⟩, prog_1_method_38_code, 2, (Option.some FieldType.boolean), 2, 512, 511, 14, 50),
  (⟨"QueueBroker$Message", "withOneHopMore", "()LQueueBroker$Message;"⟩, prog_8_method_2_code, 1, (Option.some (FieldType.object "QueueBroker$Message")), 1, 516, 514, 515, 65),
  (⟨"QueueBroker", "consume", "(IIZ)I"⟩, prog_1_method_8_code, 4, (Option.some FieldType.int), 4, 523, 521, 522, 50),
  (⟨"QueueBroker$Queue", "findConsumer", "(I)I"⟩, prog_9_method_3_code, 3, (Option.some FieldType.int), 2, 527, 525, 526, 55),
  (⟨"QueueBroker$Consumer", "<init>", "(IZ)V"⟩, prog_4_method_1_code, 3, (Option.none : Option FieldType), 3, 533, 532, 0, 68),
  (⟨"QueueBroker", "cancel", "(II)I"⟩, prog_1_method_9_code, 3, (Option.some FieldType.int), 3, 548, 546, 547, 50),
  (⟨"QueueBroker$Queue", "removeConsumer", "(I)Z"⟩, prog_9_method_4_code, 3, (Option.some FieldType.boolean), 2, 552, 550, 551, 55),
  (⟨"QueueBroker", "deliver", "(I)I"⟩, prog_1_method_10_code, 6, (Option.some FieldType.int), 2, 558, 556, 557, 50),
  (⟨"java/util/ArrayList", "isEmpty", "()Z"⟩, prog_19_method_9_code, 1, (Option.some FieldType.boolean), 1, 562, 560, 561, 53),
  (⟨"QueueBroker", "findAbleConsumer", "(LQueueBroker$Queue;)I"⟩, prog_1_method_39_code, 5, (Option.some FieldType.int), 2, 566, 565, 15, 50),
  (⟨"QueueBroker$Channel", "hold", "(LQueueBroker$Copy;)V"⟩, prog_3_method_2_code, 2, (Option.none : Option FieldType), 2, 570, 568, 569, 56),
  (⟨"QueueBroker", "settle", "(IIZI)I"⟩, prog_1_method_11_code, 8, (Option.some FieldType.int), 5, 575, 573, 574, 50),
  (⟨"QueueBroker$Channel", "countSettled", "(IZ)I"⟩, prog_3_method_4_code, 5, (Option.some FieldType.int), 3, 579, 577, 578, 56),
  (⟨"QueueBroker$Channel", "isSettled", "(LQueueBroker$Copy;IZ)Z"⟩, prog_3_method_3_code, 4, (Option.some FieldType.boolean), 4, 583, 581, 582, 56),
  (⟨"QueueBroker$Channel", "markSettled", "(IZI)V"⟩, prog_3_method_5_code, 5, (Option.none : Option FieldType), 4, 587, 585, 586, 56),
  (⟨"QueueBroker", "settleMarked", "(LQueueBroker$Channel;II)V"⟩, prog_1_method_40_code, 7, (Option.none : Option FieldType), 4, 591, 590, 16, 50),
  (⟨"QueueBroker", "settleCopy", "(LQueueBroker$Copy;I)V"⟩, prog_1_method_41_code, 3, (Option.none : Option FieldType), 3, 595, 594, 17, 50),
  (⟨"QueueBroker", "giveBack", "(LQueueBroker$Copy;)V"⟩, prog_1_method_42_code, 2, (Option.none : Option FieldType), 2, 599, 598, 18, 50),
  (⟨"QueueBroker", "prefetch", "(II)I"⟩, prog_1_method_12_code, 3, (Option.some FieldType.int), 3, 603, 601, 602, 50),
  (⟨"QueueBroker", "begin", "(I)I"⟩, prog_1_method_13_code, 2, (Option.some FieldType.int), 2, 607, 605, 606, 50),
  (⟨"QueueBroker", "commit", "(I)I"⟩, prog_1_method_14_code, 5, (Option.some FieldType.int), 2, 611, 609, 610, 50),
  (⟨"QueueBroker", "doDeed", "(LQueueBroker$Channel;I)V"⟩, prog_1_method_43_code, 4, (Option.none : Option FieldType), 3, 615, 614, 19, 50),
  (⟨"QueueBroker$Channel", "forgetDeeds", "()V"⟩, prog_3_method_7_code, 2, (Option.none : Option FieldType), 1, 619, 617, 618, 56),
  (⟨"QueueBroker", "rollback", "(I)I"⟩, prog_1_method_15_code, 3, (Option.some FieldType.int), 2, 624, 622, 623, 50),
  (⟨"QueueBroker", "close", "(I)I"⟩, prog_1_method_16_code, 2, (Option.some FieldType.int), 2, 628, 626, 627, 50),
  (⟨"QueueBroker", "closeChannel", "(I)V"⟩, prog_1_method_44_code, 4, (Option.none : Option FieldType), 2, 632, 631, 20, 50),
  (⟨"QueueBroker$Channel", "reset", "()V"⟩, prog_3_method_8_code, 1, (Option.none : Option FieldType), 1, 636, 634, 635, 56),
  (⟨"QueueBroker", "crash", "()I"⟩, prog_1_method_17_code, 3, (Option.some FieldType.int), 1, 640, 638, 639, 50),
  (⟨"QueueBroker", "forgetExchange", "(I)V"⟩, prog_1_method_45_code, 3, (Option.none : Option FieldType), 2, 644, 643, 21, 50),
  (⟨"QueueBroker$Queue", "keepPersistent", "()V"⟩, prog_9_method_5_code, 2, (Option.none : Option FieldType), 1, 648, 646, 647, 55),
  (⟨"QueueBroker", "ready", "(III)J"⟩, prog_1_method_18_code, 4, (Option.some FieldType.long), 4, 652, 650, 651, 50),
  (⟨"QueueBroker", "readyField", "(LQueueBroker$Copy;I)J"⟩, prog_1_method_47_code, 2, (Option.some FieldType.long), 2, 656, 655, 0, 50),
  (⟨"QueueBroker", "held", "(III)J"⟩, prog_1_method_19_code, 4, (Option.some FieldType.long), 4, 660, 658, 659, 50),
  (⟨"QueueBroker", "heldField", "(LQueueBroker$Copy;I)J"⟩, prog_1_method_48_code, 2, (Option.some FieldType.long), 2, 663, 662, 0, 50),
  (⟨"QueueBroker", "count", "(II)I"⟩, prog_1_method_20_code, 3, (Option.some FieldType.int), 3, 667, 665, 666, 50),
  (⟨"QueueBroker", "countDeeds", "(I)I"⟩, prog_1_method_49_code, 2, (Option.some FieldType.int), 2, 671, 670, 22, 50),
  (⟨"QueueBroker", "countBindings", "(I)I"⟩, prog_1_method_32_code, 4, (Option.some FieldType.int), 2, 675, 674, 23, 50),
  (⟨"QueueBroker", "channelInFirstRow", "(I)I"⟩, prog_1_method_50_code, 2, (Option.some FieldType.int), 2, 679, 678, 24, 50),
  (⟨"QueueBrokerModel", "<init>", "()V"⟩, prog_11_method_1_code, 2, (Option.none : Option FieldType), 1, 684, 683, 0, 57),
  (⟨"QueueBrokerModel", "exchange", "(IIZ)I"⟩, prog_11_method_21_code, 4, (Option.some FieldType.int), 4, 821, 819, 820, 57),
  (⟨"QueueBrokerModel", "in", "(II)Z"⟩, prog_11_method_2_code, 2, (Option.some FieldType.boolean), 2, 824, 823, 0, 57),
  (⟨"QueueBrokerModel", "queue", "(IIIZ)I"⟩, prog_11_method_22_code, 5, (Option.some FieldType.int), 5, 828, 826, 827, 57),
  (⟨"QueueBrokerModel", "isQ", "(I)Z"⟩, prog_11_method_4_code, 2, (Option.some FieldType.boolean), 2, 832, 831, 25, 57),
  (⟨"QueueBrokerModel", "bind", "(III)I"⟩, prog_11_method_24_code, 4, (Option.some FieldType.int), 4, 836, 834, 835, 57),
  (⟨"QueueBrokerModel", "isE", "(I)Z"⟩, prog_11_method_3_code, 2, (Option.some FieldType.boolean), 2, 840, 839, 26, 57),
  (⟨"QueueBrokerModel", "isPattern", "(I)Z"⟩, prog_11_method_7_code, 2, (Option.some FieldType.boolean), 1, 843, 842, 0, 57),
  (⟨"QueueBrokerModel", "firstDigit", "(I)I"⟩, prog_11_method_6_code, 2, (Option.some FieldType.int), 1, 846, 845, 0, 57),
  (⟨"QueueBrokerModel", "digit", "(II)I"⟩, prog_11_method_5_code, 2, (Option.some FieldType.int), 2, 849, 848, 0, 57),
  (⟨"QueueBrokerModel", "binding", "(III)I"⟩, prog_11_method_23_code, 5, (Option.some FieldType.int), 4, 853, 852, 27, 57),
  (⟨"QueueBrokerModel", "unbind", "(III)I"⟩, prog_11_method_26_code, 5, (Option.some FieldType.int), 4, 857, 855, 856, 57),
  (⟨"QueueBrokerModel", "unbindAt", "(I)V"⟩, prog_11_method_25_code, 2, (Option.none : Option FieldType), 2, 861, 860, 28, 57),
  (⟨"QueueBrokerModel", "drop", "(I)I"⟩, prog_11_method_29_code, 4, (Option.some FieldType.int), 2, 865, 863, 864, 57),
  (⟨"QueueBrokerModel", "remove", "(I)V"⟩, prog_11_method_11_code, 2, (Option.none : Option FieldType), 2, 869, 868, 29, 57),
  (⟨"QueueBrokerModel", "removeConsumer", "(I)V"⟩, prog_11_method_27_code, 3, (Option.none : Option FieldType), 2, 873, 872, 30, 57),
  (⟨"QueueBrokerModel", "publish", "(IIIII)I"⟩, prog_11_method_31_code, 7, (Option.some FieldType.int), 6, 877, 875, 876, 57),
  (⟨"QueueBrokerModel", "isKey", "(I)Z"⟩, prog_11_method_8_code, 2, (Option.some FieldType.boolean), 1, 880, 879, 0, 57),
  (⟨"QueueBrokerModel", "note", "(IIIII)I"⟩, prog_11_method_30_code, 7, (Option.some FieldType.int), 6, 884, 883, 31, 57),
  (⟨"QueueBrokerModel", "choose", "(II)I"⟩, prog_11_method_10_code, 6, (Option.some FieldType.int), 3, 888, 887, 32, 57),
  (⟨"QueueBrokerModel", "matches", "(II)Z"⟩, prog_11_method_9_code, 9, (Option.some FieldType.boolean), 3, 892, 891, 33, 57),
  (⟨"QueueBrokerModel", "route", "(IIIIZ)I"⟩, prog_11_method_18_code, 8, (Option.some FieldType.int), 6, 896, 895, 34, 57),
  (⟨"QueueBrokerModel", "put", "(IIIIZ)V"⟩, prog_11_method_17_code, 9, (Option.none : Option FieldType), 6, 900, 899, 35, 57),
  (⟨"QueueBrokerModel", "readyCount", "(I)I"⟩, prog_11_method_12_code, 4, (Option.some FieldType.int), 2, 904, 903, 36, 57),
  (⟨"QueueBrokerModel", "readyAt", "(II)I"⟩, prog_11_method_13_code, 6, (Option.some FieldType.int), 3, 908, 907, 37, 57),
  (⟨"QueueBrokerModel", "letter", "(I)V"⟩, prog_11_method_16_code, 2, (Option.none : Option FieldType), 2, 912, 911, 38, 57),
  (⟨"QueueBrokerModel", "routeLetters", "()V"⟩, prog_11_method_19_code, 3, (Option.none : Option FieldType), 1, 916, 915, 39, 57),
  (⟨"QueueBrokerModel", "consume", "(IIZ)I"⟩, prog_11_method_33_code, 4, (Option.some FieldType.int), 4, 920, 918, 919, 57),
  (⟨"QueueBrokerModel", "consumer", "(II)I"⟩, prog_11_method_32_code, 4, (Option.some FieldType.int), 3, 924, 923, 40, 57),
  (⟨"QueueBrokerModel", "addConsumer", "(IIZ)V"⟩, prog_11_method_28_code, 4, (Option.none : Option FieldType), 4, 928, 927, 41, 57),
  (⟨"QueueBrokerModel", "cancel", "(II)I"⟩, prog_11_method_34_code, 4, (Option.some FieldType.int), 3, 932, 930, 931, 57),
  (⟨"QueueBrokerModel", "deliver", "(I)I"⟩, prog_11_method_35_code, 6, (Option.some FieldType.int), 2, 936, 934, 935, 57),
  (⟨"QueueBrokerModel", "heldCount", "(I)I"⟩, prog_11_method_14_code, 4, (Option.some FieldType.int), 2, 940, 939, 42, 57),
  (⟨"QueueBrokerModel", "settle", "(IIZI)I"⟩, prog_11_method_38_code, 8, (Option.some FieldType.int), 5, 944, 942, 943, 57),
  (⟨"QueueBrokerModel", "meant", "(IIIZ)Z"⟩, prog_11_method_36_code, 5, (Option.some FieldType.boolean), 5, 948, 947, 43, 57),
  (⟨"QueueBrokerModel", "settleAll", "(IIIZI)I"⟩, prog_11_method_37_code, 12, (Option.some FieldType.int), 6, 952, 951, 44, 57),
  (⟨"QueueBrokerModel", "settleOne", "(II)V"⟩, prog_11_method_20_code, 3, (Option.none : Option FieldType), 3, 956, 955, 45, 57),
  (⟨"QueueBrokerModel", "prefetch", "(II)I"⟩, prog_11_method_39_code, 3, (Option.some FieldType.int), 3, 960, 958, 959, 57),
  (⟨"QueueBrokerModel", "begin", "(I)I"⟩, prog_11_method_40_code, 2, (Option.some FieldType.int), 2, 964, 962, 963, 57),
  (⟨"QueueBrokerModel", "commit", "(I)I"⟩, prog_11_method_42_code, 4, (Option.some FieldType.int), 2, 968, 966, 967, 57),
  (⟨"QueueBrokerModel", "forget", "(I)I"⟩, prog_11_method_41_code, 4, (Option.some FieldType.int), 2, 972, 971, 46, 57),
  (⟨"QueueBrokerModel", "rollback", "(I)I"⟩, prog_11_method_43_code, 2, (Option.some FieldType.int), 2, 976, 974, 975, 57),
  (⟨"QueueBrokerModel", "close", "(I)I"⟩, prog_11_method_44_code, 3, (Option.some FieldType.int), 2, 980, 978, 979, 57),
  (⟨"QueueBrokerModel", "crash", "()I"⟩, prog_11_method_45_code, 3, (Option.some FieldType.int), 1, 984, 982, 983, 57),
  (⟨"QueueBrokerModel", "ready", "(III)J"⟩, prog_11_method_47_code, 5, (Option.some FieldType.long), 4, 990, 988, 989, 57),
  (⟨"QueueBrokerModel", "field", "(II)J"⟩, prog_11_method_46_code, 3, (Option.some FieldType.long), 3, 995, 994, 47, 57),
  (⟨"QueueBrokerModel", "held", "(III)J"⟩, prog_11_method_48_code, 5, (Option.some FieldType.long), 4, 999, 997, 998, 57),
  (⟨"QueueBrokerModel", "heldAt", "(II)I"⟩, prog_11_method_15_code, 6, (Option.some FieldType.int), 3, 1003, 1002, 48, 57),
  (⟨"QueueBrokerModel", "count", "(II)I"⟩, prog_11_method_49_code, 6, (Option.some FieldType.int), 3, 1007, 1005, 1006, 57)]
/-- QueueBroker.<init>()V -/
def bk_0 : List (Nat × List Ins) := [(0, [(.aload_n 0, 1, []), (.invokespecial 1, 3, [74]), (.aload_n 0, 1, []), (.iconst 5, 1, []), (.anewarray 9, 3, [100, 77]), (.putfield 11, 3, [9, 0, 186, 1]), (.aload_n 0, 1, []), (.bipush 6, 2, []), (.anewarray 15, 3, [101, 79]), (.putfield 17, 3, [9, 1, 187, 1]), (.aload_n 0, 1, []), (.iconst 4, 1, []), (.anewarray 21, 3, [102, 81]), (.putfield 23, 3, [9, 2, 188, 1]), (.aload_n 0, 1, []), (.new 27, 3, [10, 83]), (.dup, 1, []), (.invokespecial 29, 3, [1, 0, 0, 85, 10]), (.putfield 30, 3, [9, 3, 189, 1]), (.aload_n 0, 1, []), (.new 27, 3, [10, 83]), (.dup, 1, []), (.invokespecial 29, 3, [1, 0, 0, 85, 10]), (.putfield 34, 3, [9, 4, 190, 1]), (.aload_n 0, 1, []), (.iconst 0, 1, []), (.putfield 37, 3, [9, 5, 191, 0]), (.aload_n 0, 1, []), (.iconst 0, 1, []), (.putfield 41, 3, [9, 6, 192, 0]), (.aload_n 0, 1, []), (.iconst 0, 1, []), (.putfield 44, 3, [9, 7, 193, 0]), (.iconst 0, 1, []), (.istore_n 1, 1, [])]),
  (68, [(.iload_n 1, 1, []), (.iconst 5, 1, []), (.if_icmp .ge 22, 3, [92]), (.aload_n 0, 1, []), (.getfield 11, 3, [9, 0, 186, 1]), (.iload_n 1, 1, []), (.new 9, 3, [6, 77]), (.dup, 1, []), (.invokespecial 47, 3, [4, 0, 0, 110, 6]), (.aastore, 1, []), (.iinc 1 1, 3, []), (.goto (-21), 3, [68])]),
  (92, [(.iconst 0, 1, []), (.istore_n 1, 1, [])]),
  (94, [(.iload_n 1, 1, []), (.bipush 6, 2, []), (.if_icmp .ge 22, 3, [119]), (.aload_n 0, 1, []), (.getfield 17, 3, [9, 1, 187, 1]), (.iload_n 1, 1, []), (.new 15, 3, [8, 79]), (.dup, 1, []), (.invokespecial 48, 3, [5, 0, 0, 128, 8]), (.aastore, 1, []), (.iinc 1 1, 3, []), (.goto (-22), 3, [94])]),
  (119, [(.iconst 0, 1, []), (.istore_n 1, 1, [])]),
  (121, [(.iload_n 1, 1, []), (.iconst 4, 1, []), (.if_icmp .ge 22, 3, [145]), (.aload_n 0, 1, []), (.getfield 23, 3, [9, 2, 188, 1]), (.iload_n 1, 1, []), (.new 21, 3, [2, 81]), (.dup, 1, []), (.invokespecial 49, 3, [6, 0, 0, 160, 2]), (.aastore, 1, []), (.iinc 1 1, 3, []), (.goto (-21), 3, [121])]),
  (145, [(.return_, 1, [])])]
/-- java/util/ArrayList.<init>()V -/
def bk_1 : List (Nat × List Ins) := [(0, [(.aload_n 0, 1, []), (.invokespecial 1, 3, [2, 0, 0, 88, 0]), (.aload_n 0, 1, []), (.getstatic 39, 3, [95]), (.putfield 9, 3, [10, 1, 97, 1]), (.return_, 1, [])])]
/-- java/util/AbstractList.<init>()V -/
def bk_2 : List (Nat × List Ins) := [(0, [(.aload_n 0, 1, []), (.invokespecial 1, 3, [3, 0, 0, 91, 0]), (.aload_n 0, 1, []), (.iconst 0, 1, []), (.putfield 7, 3, [10, 0, 99, 0]), (.return_, 1, [])])]
/-- java/util/AbstractCollection.<init>()V -/
def bk_3 : List (Nat × List Ins) := [(0, [(.aload_n 0, 1, []), (.invokespecial 1, 3, [94]), (.return_, 1, [])])]
/-- QueueBroker$Exchange.<init>()V -/
def bk_4 : List (Nat × List Ins) := [(0, [(.aload_n 0, 1, []), (.invokespecial 3, 3, [113]), (.aload_n 0, 1, []), (.iconst 0, 1, []), (.putfield 9, 3, [6, 0, 114, 4]), (.aload_n 0, 1, []), (.iconst 0, 1, []), (.putfield 15, 3, [6, 1, 116, 0]), (.aload_n 0, 1, []), (.iconst 0, 1, []), (.putfield 19, 3, [6, 2, 118, 4]), (.return_, 1, [])])]
/-- QueueBroker$Queue.<init>()V -/
def bk_5 : List (Nat × List Ins) := [(0, [(.aload_n 0, 1, []), (.invokespecial 3, 3, [131]), (.aload_n 0, 1, []), (.iconst 0, 1, []), (.putfield 9, 3, [8, 0, 134, 4]), (.aload_n 0, 1, []), (.iconst 1, 1, []), (.putfield 15, 3, [8, 1, 136, 0]), (.aload_n 0, 1, []), (.iconst (-1), 1, []), (.putfield 19, 3, [8, 2, 138, 0]), (.aload_n 0, 1, []), (.iconst 0, 1, []), (.putfield 22, 3, [8, 3, 140, 4]), (.aload_n 0, 1, []), (.new 25, 3, [10, 132]), (.dup, 1, []), (.invokespecial 27, 3, [1, 0, 0, 133, 10]), (.putfield 28, 3, [8, 4, 142, 1]), (.aload_n 0, 1, []), (.new 25, 3, [10, 132]), (.dup, 1, []), (.invokespecial 27, 3, [1, 0, 0, 133, 10]), (.putfield 32, 3, [8, 5, 144, 1]), (.return_, 1, [])])]
/-- QueueBroker$Channel.<init>()V -/
def bk_6 : List (Nat × List Ins) := [(0, [(.aload_n 0, 1, []), (.invokespecial 3, 3, [163]), (.aload_n 0, 1, []), (.bipush 12, 2, []), (.putfield 9, 3, [2, 0, 166, 0]), (.aload_n 0, 1, []), (.iconst 0, 1, []), (.putfield 15, 3, [2, 1, 168, 4]), (.aload_n 0, 1, []), (.iconst 0, 1, []), (.putfield 19, 3, [2, 2, 170, 0]), (.aload_n 0, 1, []), (.new 22, 3, [10, 164]), (.dup, 1, []), (.invokespecial 24, 3, [1, 0, 0, 165, 10]), (.putfield 25, 3, [2, 3, 171, 1]), (.aload_n 0, 1, []), (.new 22, 3, [10, 164]), (.dup, 1, []), (.invokespecial 24, 3, [1, 0, 0, 165, 10]), (.putfield 29, 3, [2, 4, 173, 1]), (.return_, 1, [])])]
/-- QueueBroker.exchange(IIZ)I -/
def bk_7 : List (Nat × List Ins) := [(0, [(.iload_n 1, 1, []), (.iconst 0, 1, []), (.iconst 4, 1, []), (.invokestatic 50, 3, [8, 3, 1, 215]), (.ifCond .eq 12, 3, [18]), (.iload_n 2, 1, []), (.iconst 0, 1, []), (.iconst 2, 1, []), (.invokestatic 50, 3, [8, 3, 1, 215]), (.ifCond .ne 5, 3, [20])]),
  (18, [(.iconst (-1), 1, []), (.ireturn, 1, [0])]),
  (20, [(.aload_n 0, 1, []), (.getfield 11, 3, [9, 0, 186, 1]), (.iload_n 1, 1, []), (.aaload, 1, []), (.astore 4, 2, []), (.aload 4, 2, []), (.getfield 54, 3, [6, 0, 115, 0]), (.ifCond .eq 28, 3, [61]), (.aload 4, 2, []), (.getfield 58, 3, [6, 1, 117, 0]), (.iload_n 2, 1, []), (.if_icmp .ne 16, 3, [58]), (.aload 4, 2, []), (.getfield 61, 3, [6, 2, 119, 0]), (.iload_n 3, 1, []), (.if_icmp .ne 7, 3, [58]), (.iconst 0, 1, []), (.goto 5, 3, [60])]),
  (58, [(.bipush (-3), 2, [])]),
  (60, [(.ireturn, 1, [0])]),
  (61, [(.aload 4, 2, []), (.iconst 1, 1, []), (.putfield 54, 3, [6, 0, 115, 4]), (.aload 4, 2, []), (.iload_n 2, 1, []), (.putfield 58, 3, [6, 1, 117, 0]), (.aload 4, 2, []), (.iload_n 3, 1, []), (.putfield 61, 3, [6, 2, 119, 4]), (.iconst 0, 1, []), (.ireturn, 1, [0])])]
/-- QueueBroker.isWithin(III)Z -/
def bk_8 : List (Nat × List Ins) := [(0, [(.iload_n 0, 1, []), (.iload_n 1, 1, []), (.if_icmp .lt 12, 3, [14]), (.iload_n 0, 1, []), (.iload_n 2, 1, []), (.if_icmp .gt 7, 3, [14]), (.iconst 1, 1, []), (.goto 4, 3, [15])]),
  (14, [(.iconst 0, 1, [])]),
  (15, [(.ireturn, 1, [4])])]
/-- QueueBroker.queue(IIIZ)I -/
def bk_9 : List (Nat × List Ins) := [(0, [(.iload_n 1, 1, []), (.iconst 0, 1, []), (.iconst 5, 1, []), (.invokestatic 50, 3, [8, 3, 1, 215]), (.ifCond .eq 22, 3, [28]), (.iload_n 2, 1, []), (.iconst 1, 1, []), (.bipush 12, 2, []), (.invokestatic 50, 3, [8, 3, 1, 215]), (.ifCond .eq 12, 3, [28]), (.iload_n 3, 1, []), (.iconst (-1), 1, []), (.iconst 4, 1, []), (.invokestatic 50, 3, [8, 3, 1, 215]), (.ifCond .ne 5, 3, [30])]),
  (28, [(.iconst (-1), 1, []), (.ireturn, 1, [0])]),
  (30, [(.aload_n 0, 1, []), (.getfield 17, 3, [9, 1, 187, 1]), (.iload_n 1, 1, []), (.aaload, 1, []), (.astore 5, 2, []), (.aload 5, 2, []), (.getfield 64, 3, [8, 0, 135, 0]), (.ifCond .eq 38, 3, [81]), (.aload 5, 2, []), (.getfield 65, 3, [8, 1, 137, 0]), (.iload_n 2, 1, []), (.if_icmp .ne 26, 3, [78]), (.aload 5, 2, []), (.getfield 68, 3, [8, 2, 139, 0]), (.iload_n 3, 1, []), (.if_icmp .ne 17, 3, [78]), (.aload 5, 2, []), (.getfield 71, 3, [8, 3, 141, 0]), (.iload 4, 2, []), (.if_icmp .ne 7, 3, [78]), (.iconst 0, 1, []), (.goto 5, 3, [80])]),
  (78, [(.bipush (-3), 2, [])]),
  (80, [(.ireturn, 1, [0])]),
  (81, [(.aload 5, 2, []), (.iconst 1, 1, []), (.putfield 64, 3, [8, 0, 135, 4]), (.aload 5, 2, []), (.iload_n 2, 1, []), (.putfield 65, 3, [8, 1, 137, 0]), (.aload 5, 2, []), (.iload_n 3, 1, []), (.putfield 68, 3, [8, 2, 139, 0]), (.aload 5, 2, []), (.iload 4, 2, []), (.putfield 71, 3, [8, 3, 141, 4]), (.iconst 0, 1, []), (.ireturn, 1, [0])])]
/-- QueueBroker.bind(III)I -/
def bk_10 : List (Nat × List Ins) := [(0, [(.aload_n 0, 1, []), (.iload_n 1, 1, []), (.invokevirtual 72, 3, [11, 1, 1, 226, 9]), (.ifCond .eq 18, 3, [23]), (.aload_n 0, 1, []), (.iload_n 2, 1, []), (.invokevirtual 76, 3, [12, 1, 1, 230, 9]), (.ifCond .eq 10, 3, [23]), (.iload_n 3, 1, []), (.invokestatic 79, 3, [13, 1, 1, 234]), (.ifCond .ne 5, 3, [25])]),
  (23, [(.iconst (-1), 1, []), (.ireturn, 1, [0])]),
  (25, [(.aload_n 0, 1, []), (.iload_n 1, 1, []), (.iload_n 2, 1, []), (.iload_n 3, 1, []), (.invokevirtual 82, 3, [16, 3, 1, 243, 9]), (.iconst (-1), 1, []), (.if_icmp .eq 6, 3, [39]), (.bipush (-3), 2, []), (.ireturn, 1, [0])]),
  (39, [(.aload_n 0, 1, []), (.getfield 30, 3, [9, 3, 189, 1]), (.invokevirtual 86, 3, [17, 0, 1, 247, 10]), (.bipush 24, 2, []), (.if_icmp .lt 6, 3, [54]), (.bipush (-2), 2, []), (.ireturn, 1, [0])]),
  (54, [(.aload_n 0, 1, []), (.getfield 30, 3, [9, 3, 189, 1]), (.new 90, 3, [1, 265]), (.dup, 1, []), (.iload_n 1, 1, []), (.iload_n 2, 1, []), (.iload_n 3, 1, []), (.invokespecial 92, 3, [22, 3, 0, 267, 1]), (.invokevirtual 95, 3, [23, 1, 1, 284, 10]), (.pop, 1, []), (.iconst 0, 1, []), (.ireturn, 1, [0])])]
/-- QueueBroker.isDeclaredExchange(I)Z -/
def bk_11 : List (Nat × List Ins) := [(0, [(.iload_n 1, 1, []), (.iconst 0, 1, []), (.iconst 4, 1, []), (.invokestatic 50, 3, [8, 3, 1, 215]), (.ifCond .eq 19, 3, [25]), (.aload_n 0, 1, []), (.getfield 11, 3, [9, 0, 186, 1]), (.iload_n 1, 1, []), (.aaload, 1, []), (.getfield 54, 3, [6, 0, 115, 0]), (.ifCond .eq 7, 3, [25]), (.iconst 1, 1, []), (.goto 4, 3, [26])]),
  (25, [(.iconst 0, 1, [])]),
  (26, [(.ireturn, 1, [4])])]
/-- QueueBroker.isDeclaredQueue(I)Z -/
def bk_12 : List (Nat × List Ins) := [(0, [(.iload_n 1, 1, []), (.iconst 0, 1, []), (.iconst 5, 1, []), (.invokestatic 50, 3, [8, 3, 1, 215]), (.ifCond .eq 19, 3, [25]), (.aload_n 0, 1, []), (.getfield 17, 3, [9, 1, 187, 1]), (.iload_n 1, 1, []), (.aaload, 1, []), (.getfield 64, 3, [8, 0, 135, 0]), (.ifCond .eq 7, 3, [25]), (.iconst 1, 1, []), (.goto 4, 3, [26])]),
  (25, [(.iconst 0, 1, [])]),
  (26, [(.ireturn, 1, [4])])]
/-- QueueBroker.isPattern(I)Z -/
def bk_13 : List (Nat × List Ins) := [(0, [(.iload_n 0, 1, []), (.invokestatic 236, 3, [14, 1, 1, 237]), (.istore_n 1, 1, [])]),
  (5, [(.iload_n 1, 1, []), (.bipush 8, 2, []), (.if_icmp .ge 19, 3, [27]), (.iload_n 0, 1, []), (.iload_n 1, 1, []), (.invokestatic 233, 3, [15, 2, 1, 240]), (.ifCond .eq 5, 3, [21]), (.iconst 0, 1, []), (.ireturn, 1, [4])]),
  (21, [(.iinc 1 1, 3, []), (.goto (-19), 3, [5])]),
  (27, [(.iconst 1, 1, []), (.ireturn, 1, [4])])]
/-- QueueBroker.countItems(I)I -/
def bk_14 : List (Nat × List Ins) := [(0, [(.iconst 0, 1, []), (.istore_n 1, 1, [])]),
  (2, [(.iload_n 1, 1, []), (.bipush 8, 2, []), (.if_icmp .ge 17, 3, [22]), (.iload_n 0, 1, []), (.iload_n 1, 1, []), (.invokestatic 233, 3, [15, 2, 1, 240]), (.ifCond .eq 9, 3, [22]), (.iinc 1 1, 3, []), (.goto (-17), 3, [2])]),
  (22, [(.iload_n 1, 1, []), (.ireturn, 1, [0])])]
/-- QueueBroker.itemAt(II)I -/
def bk_15 : List (Nat × List Ins) := [(0, [(.iload_n 0, 1, []), (.iconst 4, 1, []), (.iload_n 1, 1, []), (.imul, 1, []), (.iushr, 1, []), (.bipush 15, 2, []), (.iand, 1, []), (.ireturn, 1, [0])])]
/-- QueueBroker.findBinding(III)I -/
def bk_16 : List (Nat × List Ins) := [(0, [(.iconst 0, 1, []), (.istore 4, 2, [])]),
  (3, [(.iload 4, 2, []), (.aload_n 0, 1, []), (.getfield 30, 3, [9, 3, 189, 1]), (.invokevirtual 86, 3, [17, 0, 1, 247, 10]), (.if_icmp .ge 53, 3, [65]), (.aload_n 0, 1, []), (.getfield 30, 3, [9, 3, 189, 1]), (.iload 4, 2, []), (.invokevirtual 211, 3, [18, 1, 2, 251, 10]), (.checkcast 90, 3, [1, 265, 1008]), (.astore 5, 2, []), (.aload 5, 2, []), (.getfield 242, 3, [1, 0, 272, 0]), (.iload_n 1, 1, []), (.if_icmp .ne 24, 3, [59]), (.aload 5, 2, []), (.getfield 245, 3, [1, 1, 274, 0]), (.iload_n 2, 1, []), (.if_icmp .ne 15, 3, [59]), (.aload 5, 2, []), (.getfield 248, 3, [1, 2, 276, 0]), (.iload_n 3, 1, []), (.if_icmp .ne 6, 3, [59]), (.iload 4, 2, []), (.ireturn, 1, [0])]),
  (59, [(.iinc 4 1, 3, []), (.goto (-59), 3, [3])]),
  (65, [(.iconst (-1), 1, []), (.ireturn, 1, [0])])]
/-- java/util/ArrayList.size()I -/
def bk_17 : List (Nat × List Ins) := [(0, [(.aload_n 0, 1, []), (.getfield 48, 3, [10, 2, 98, 0]), (.ireturn, 1, [0])])]
/-- java/util/ArrayList.get(I)Ljava/lang/Object; -/
def bk_18 : List (Nat × List Ins) := [(0, [(.iload_n 1, 1, []), (.aload_n 0, 1, []), (.getfield 48, 3, [10, 2, 98, 0]), (.invokestatic 118, 3, [19, 2, 1, 255]), (.pop, 1, []), (.aload_n 0, 1, []), (.iload_n 1, 1, []), (.invokevirtual 123, 3, [21, 1, 2, 261, 10]), (.areturn, 1, [])])]
/-- java/util/Objects.checkIndex(II)I -/
def bk_19 : List (Nat × List Ins) := [(0, [(.iload_n 0, 1, []), (.iload_n 1, 1, []), (.aconst_null, 1, []), (.invokestatic 105, 3, [20, 3, 1, 258]), (.ireturn, 1, [0])])]
/-- jdk/internal/util/Preconditions.checkIndex(IILjava/util/function/BiFunction;)I -/
def bk_20 : List (Nat × List Ins) := [(0, [(.iload_n 0, 1, []), (.ifCond .lt 8, 3, [9]), (.iload_n 0, 1, []), (.iload_n 1, 1, []), (.if_icmp .lt 10, 3, [16])]),
  (9, [(.aload_n 2, 1, []), (.iload_n 0, 1, []), (.iload_n 1, 1, []), (.invokestatic 95, 3, [])]),
  (16, [(.iload_n 0, 1, []), (.ireturn, 1, [0])])]
/-- java/util/ArrayList.elementData(I)Ljava/lang/Object; -/
def bk_21 : List (Nat × List Ins) := [(0, [(.aload_n 0, 1, []), (.getfield 9, 3, [10, 1, 97, 1]), (.iload_n 1, 1, []), (.aaload, 1, []), (.areturn, 1, [])])]
/-- QueueBroker$Binding.<init>(III)V -/
def bk_22 : List (Nat × List Ins) := [(0, [(.aload_n 0, 1, []), (.invokespecial 1, 3, [270]), (.aload_n 0, 1, []), (.iload_n 1, 1, []), (.putfield 7, 3, [1, 0, 271, 0]), (.aload_n 0, 1, []), (.iload_n 2, 1, []), (.putfield 13, 3, [1, 1, 273, 0]), (.aload_n 0, 1, []), (.iload_n 3, 1, []), (.putfield 16, 3, [1, 2, 275, 0]), (.return_, 1, [])])]
/-- java/util/ArrayList.add(Ljava/lang/Object;)Z -/
def bk_23 : List (Nat × List Ins) := [(0, [(.aload_n 0, 1, []), (.dup, 1, []), (.getfield 63, 3, [10, 0, 100, 0]), (.iconst 1, 1, []), (.iadd, 1, []), (.putfield 63, 3, [10, 0, 100, 0]), (.aload_n 0, 1, []), (.aload_n 1, 1, []), (.aload_n 0, 1, []), (.getfield 9, 3, [10, 1, 97, 1]), (.aload_n 0, 1, []), (.getfield 48, 3, [10, 2, 98, 0]), (.invokevirtual 131, 3, [24, 3, 0, 288, 10]), (.iconst 1, 1, []), (.ireturn, 1, [4])])]
/-- java/util/ArrayList.add(Ljava/lang/Object;[Ljava/lang/Object;I)V -/
def bk_24 : List (Nat × List Ins) := [(0, [(.iload_n 3, 1, []), (.aload_n 2, 1, []), (.arraylength, 1, []), (.if_icmp .ne 8, 3, [11]), (.aload_n 0, 1, []), (.invokevirtual 129, 3, [25, 0, 2, 292, 10]), (.astore_n 2, 1, [])]),
  (11, [(.aload_n 2, 1, []), (.iload_n 3, 1, []), (.aload_n 1, 1, []), (.aastore, 1, []), (.aload_n 0, 1, []), (.iload_n 3, 1, []), (.iconst 1, 1, []), (.iadd, 1, []), (.putfield 48, 3, [10, 2, 98, 0]), (.return_, 1, [])])]
/-- java/util/ArrayList.grow()[Ljava/lang/Object; -/
def bk_25 : List (Nat × List Ins) := [(0, [(.aload_n 0, 1, []), (.aload_n 0, 1, []), (.getfield 48, 3, [10, 2, 98, 0]), (.iconst 1, 1, []), (.iadd, 1, []), (.invokevirtual 69, 3, [26, 1, 2, 296, 10]), (.areturn, 1, [])])]
/-- java/util/ArrayList.grow(I)[Ljava/lang/Object; -/
def bk_26 : List (Nat × List Ins) := [(0, [(.aload_n 0, 1, []), (.getfield 9, 3, [10, 1, 97, 1]), (.arraylength, 1, []), (.istore_n 2, 1, []), (.iload_n 2, 1, []), (.ifCond .gt 13, 3, [20]), (.aload_n 0, 1, []), (.getfield 9, 3, [10, 1, 97, 1]), (.getstatic 39, 3, [95]), (.if_acmp .eq 28, 3, [45])]),
  (20, [(.iload_n 2, 1, []), (.iload_n 1, 1, []), (.iload_n 2, 1, []), (.isub, 1, []), (.iload_n 2, 1, []), (.iconst 1, 1, []), (.ishr, 1, []), (.invokestatic 73, 3, [27, 3, 1, 300]), (.istore_n 3, 1, []), (.aload_n 0, 1, []), (.aload_n 0, 1, []), (.getfield 9, 3, [10, 1, 97, 1]), (.iload_n 3, 1, []), (.invokestatic 66, 3, [29, 2, 2, 310]), (.dup_x1, 1, []), (.putfield 9, 3, [10, 1, 97, 1]), (.areturn, 1, [])]),
  (45, [(.aload_n 0, 1, []), (.bipush 10, 2, []), (.iload_n 1, 1, []), (.invokestatic 79, 3, [0, 340]), (.anewarray 7, 3, [103, 341]), (.dup_x1, 1, []), (.putfield 9, 3, [10, 1, 97, 1]), (.areturn, 1, [])])]
/-- jdk/internal/util/ArraysSupport.newLength(III)I -/
def bk_27 : List (Nat × List Ins) := [(0, [(.iload_n 0, 1, []), (.iload_n 1, 1, []), (.iload_n 2, 1, []), (.invokestatic 194, 3, [0, 303]), (.iadd, 1, []), (.istore_n 3, 1, []), (.iconst 0, 1, []), (.iload_n 3, 1, []), (.if_icmp .ge 11, 3, [21]), (.iload_n 3, 1, []), (.ldc 200, 2, [2147483639, 306]), (.if_icmp .gt 5, 3, [21]), (.iload_n 3, 1, []), (.ireturn, 1, [0])]),
  (21, [(.iload_n 0, 1, []), (.iload_n 1, 1, []), (.invokestatic 201, 3, [28, 2, 1, 307]), (.ireturn, 1, [0])])]
/-- jdk/internal/util/ArraysSupport.hugeLength(II)I -/
def bk_28 : List (Nat × List Ins) := [(0, [(.iload_n 0, 1, []), (.iload_n 1, 1, []), (.iadd, 1, []), (.istore_n 2, 1, []), (.iload_n 2, 1, []), (.ifCond .ge 44, 3, [49]), (.new 204, 3, [])]),
  (49, [(.iload_n 2, 1, []), (.ldc 200, 2, [2147483639, 306]), (.if_icmp .gt 6, 3, [58]), (.ldc 200, 2, [2147483639, 306]), (.ireturn, 1, [0])]),
  (58, [(.iload_n 2, 1, []), (.ireturn, 1, [0])])]
/-- java/util/Arrays.copyOf([Ljava/lang/Object;I)[Ljava/lang/Object; -/
def bk_29 : List (Nat × List Ins) := [(0, [(.aload_n 0, 1, []), (.iload_n 1, 1, []), (.aload_n 0, 1, []), (.invokevirtual 86, 3, [313]), (.invokestatic 300, 3, [30, 3, 2, 328]), (.areturn, 1, [])])]
/-- java/util/Arrays.copyOf([Ljava/lang/Object;ILjava/lang/Class;)[Ljava/lang/Object; -/
def bk_30 : List (Nat × List Ins) := [(0, [(.aload_n 2, 1, []), (.ldc 110, 2, [331]), (.if_acmp .ne 10, 3, [13]), (.iload_n 1, 1, []), (.anewarray 2, 3, [103, 333]), (.goto 14, 3, [24])]),
  (13, [(.aload_n 2, 1, []), (.invokevirtual 90, 3, [])]),
  (24, [(.astore_n 3, 1, []), (.aload_n 0, 1, []), (.iconst 0, 1, []), (.aload_n 3, 1, []), (.iconst 0, 1, []), (.aload_n 0, 1, []), (.arraylength, 1, []), (.iload_n 1, 1, []), (.invokestatic 304, 3, [1, 334]), (.invokestatic 150, 3, [2, 337]), (.aload_n 3, 1, []), (.areturn, 1, [])])]
/-- QueueBroker.unbind(III)I -/
def bk_31 : List (Nat × List Ins) := [(0, [(.aload_n 0, 1, []), (.iload_n 1, 1, []), (.invokevirtual 72, 3, [11, 1, 1, 226, 9]), (.ifCond .eq 18, 3, [23]), (.aload_n 0, 1, []), (.iload_n 2, 1, []), (.invokevirtual 76, 3, [12, 1, 1, 230, 9]), (.ifCond .eq 10, 3, [23]), (.iload_n 3, 1, []), (.invokestatic 79, 3, [13, 1, 1, 234]), (.ifCond .ne 5, 3, [25])]),
  (23, [(.iconst (-1), 1, []), (.ireturn, 1, [0])]),
  (25, [(.aload_n 0, 1, []), (.iload_n 1, 1, []), (.iload_n 2, 1, []), (.iload_n 3, 1, []), (.invokevirtual 82, 3, [16, 3, 1, 243, 9]), (.istore 4, 2, []), (.iload 4, 2, []), (.iconst (-1), 1, []), (.if_icmp .ne 6, 3, [43]), (.bipush (-3), 2, []), (.ireturn, 1, [0])]),
  (43, [(.aload_n 0, 1, []), (.getfield 30, 3, [9, 3, 189, 1]), (.iload 4, 2, []), (.invokevirtual 99, 3, [32, 1, 2, 346, 10]), (.pop, 1, []), (.iconst 0, 1, []), (.ireturn, 1, [0])])]
/-- java/util/ArrayList.remove(I)Ljava/lang/Object; -/
def bk_32 : List (Nat × List Ins) := [(0, [(.iload_n 1, 1, []), (.aload_n 0, 1, []), (.getfield 48, 3, [10, 2, 98, 0]), (.invokestatic 118, 3, [19, 2, 1, 255]), (.pop, 1, []), (.aload_n 0, 1, []), (.getfield 9, 3, [10, 1, 97, 1]), (.astore_n 2, 1, []), (.aload_n 2, 1, []), (.iload_n 1, 1, []), (.aaload, 1, []), (.astore_n 3, 1, []), (.aload_n 0, 1, []), (.aload_n 2, 1, []), (.iload_n 1, 1, []), (.invokevirtual 144, 3, [33, 2, 0, 350, 10]), (.aload_n 3, 1, []), (.areturn, 1, [])])]
/-- java/util/ArrayList.fastRemove([Ljava/lang/Object;I)V -/
def bk_33 : List (Nat × List Ins) := [(0, [(.aload_n 0, 1, []), (.dup, 1, []), (.getfield 63, 3, [10, 0, 100, 0]), (.iconst 1, 1, []), (.iadd, 1, []), (.putfield 63, 3, [10, 0, 100, 0]), (.aload_n 0, 1, []), (.getfield 48, 3, [10, 2, 98, 0]), (.iconst 1, 1, []), (.isub, 1, []), (.dup, 1, []), (.istore_n 3, 1, []), (.iload_n 2, 1, []), (.if_icmp .le 15, 3, [34]), (.aload_n 1, 1, []), (.iload_n 2, 1, []), (.iconst 1, 1, []), (.iadd, 1, []), (.aload_n 1, 1, []), (.iload_n 2, 1, []), (.iload_n 3, 1, []), (.iload_n 2, 1, []), (.isub, 1, []), (.invokestatic 112, 3, [2, 354])]),
  (34, [(.aload_n 1, 1, []), (.aload_n 0, 1, []), (.iload_n 3, 1, []), (.dup_x1, 1, []), (.putfield 48, 3, [10, 2, 98, 0]), (.aconst_null, 1, []), (.aastore, 1, []), (.return_, 1, [])])]
/-- QueueBroker.drop(I)I -/
def bk_34 : List (Nat × List Ins) := [(0, [(.aload_n 0, 1, []), (.iload_n 1, 1, []), (.invokevirtual 76, 3, [12, 1, 1, 230, 9]), (.ifCond .ne 5, 3, [10]), (.iconst (-1), 1, []), (.ireturn, 1, [0])]),
  (10, [(.aload_n 0, 1, []), (.iload_n 1, 1, []), (.invokevirtual 103, 3, [35, 1, 1, 359, 9]), (.ireturn, 1, [0])])]
/-- QueueBroker.forgetQueue(I)I -/
def bk_35 : List (Nat × List Ins) := [(0, [(.aload_n 0, 1, []), (.getfield 30, 3, [9, 3, 189, 1]), (.invokevirtual 86, 3, [17, 0, 1, 247, 10]), (.iconst 1, 1, []), (.isub, 1, []), (.istore_n 2, 1, [])]),
  (10, [(.iload_n 2, 1, []), (.ifCond .lt 36, 3, [47]), (.aload_n 0, 1, []), (.getfield 30, 3, [9, 3, 189, 1]), (.iload_n 2, 1, []), (.invokevirtual 211, 3, [18, 1, 2, 251, 10]), (.checkcast 90, 3, [1, 265, 1008]), (.getfield 245, 3, [1, 1, 274, 0]), (.iload_n 1, 1, []), (.if_icmp .ne 12, 3, [41]), (.aload_n 0, 1, []), (.getfield 30, 3, [9, 3, 189, 1]), (.iload_n 2, 1, []), (.invokevirtual 99, 3, [32, 1, 2, 346, 10]), (.pop, 1, [])]),
  (41, [(.iinc 2 (-1), 3, []), (.goto (-34), 3, [10])]),
  (47, [(.aload_n 0, 1, []), (.getfield 17, 3, [9, 1, 187, 1]), (.iload_n 1, 1, []), (.aaload, 1, []), (.getfield 154, 3, [8, 4, 143, 1]), (.invokevirtual 86, 3, [17, 0, 1, 247, 10]), (.istore_n 2, 1, []), (.iconst 0, 1, []), (.istore_n 3, 1, [])]),
  (62, [(.iload_n 3, 1, []), (.iconst 4, 1, []), (.if_icmp .ge 22, 3, [86]), (.iload_n 2, 1, []), (.aload_n 0, 1, []), (.getfield 23, 3, [9, 2, 188, 1]), (.iload_n 3, 1, []), (.aaload, 1, []), (.iload_n 1, 1, []), (.invokevirtual 311, 3, [36, 1, 1, 363, 2]), (.iadd, 1, []), (.istore_n 2, 1, []), (.iinc 3 1, 3, []), (.goto (-21), 3, [62])]),
  (86, [(.aload_n 0, 1, []), (.getfield 17, 3, [9, 1, 187, 1]), (.iload_n 1, 1, []), (.aaload, 1, []), (.invokevirtual 314, 3, [37, 0, 0, 371, 8]), (.iload_n 2, 1, []), (.ireturn, 1, [0])])]
/-- QueueBroker$Channel.letGoOf(I)I -/
def bk_36 : List (Nat × List Ins) := [(0, [(.iconst 0, 1, []), (.istore_n 2, 1, []), (.aload_n 0, 1, []), (.getfield 25, 3, [2, 3, 171, 1]), (.invokevirtual 44, 3, [17, 0, 1, 367, 10]), (.iconst 1, 1, []), (.isub, 1, []), (.istore_n 3, 1, [])]),
  (12, [(.iload_n 3, 1, []), (.ifCond .lt 39, 3, [52]), (.aload_n 0, 1, []), (.getfield 25, 3, [2, 3, 171, 1]), (.iload_n 3, 1, []), (.invokevirtual 48, 3, [18, 1, 2, 368, 10]), (.checkcast 33, 3, [4, 369, 1009]), (.getfield 56, 3, [4, 1, 464, 0]), (.iload_n 1, 1, []), (.if_icmp .ne 15, 3, [46]), (.aload_n 0, 1, []), (.getfield 25, 3, [2, 3, 171, 1]), (.iload_n 3, 1, []), (.invokevirtual 59, 3, [32, 1, 2, 370, 10]), (.pop, 1, []), (.iinc 2 1, 3, [])]),
  (46, [(.iinc 3 (-1), 3, []), (.goto (-37), 3, [12])]),
  (52, [(.iload_n 2, 1, []), (.ireturn, 1, [0])])]
/-- QueueBroker$Queue.reset()V -/
def bk_37 : List (Nat × List Ins) := [(0, [(.aload_n 0, 1, []), (.iconst 0, 1, []), (.putfield 9, 3, [8, 0, 134, 4]), (.aload_n 0, 1, []), (.getfield 28, 3, [8, 4, 142, 1]), (.invokevirtual 73, 3, [38, 0, 0, 375, 10]), (.aload_n 0, 1, []), (.getfield 32, 3, [8, 5, 144, 1]), (.invokevirtual 73, 3, [38, 0, 0, 375, 10]), (.return_, 1, [])])]
/-- java/util/ArrayList.clear()V -/
def bk_38 : List (Nat × List Ins) := [(0, [(.aload_n 0, 1, []), (.dup, 1, []), (.getfield 63, 3, [10, 0, 100, 0]), (.iconst 1, 1, []), (.iadd, 1, []), (.putfield 63, 3, [10, 0, 100, 0]), (.aload_n 0, 1, []), (.getfield 9, 3, [10, 1, 97, 1]), (.astore_n 1, 1, []), (.aload_n 0, 1, []), (.getfield 48, 3, [10, 2, 98, 0]), (.istore_n 2, 1, []), (.aload_n 0, 1, []), (.iconst 0, 1, []), (.dup_x1, 1, []), (.putfield 48, 3, [10, 2, 98, 0]), (.istore_n 3, 1, [])]),
  (27, [(.iload_n 3, 1, []), (.iload_n 2, 1, []), (.if_icmp .ge 13, 3, [42]), (.aload_n 1, 1, []), (.iload_n 3, 1, []), (.aconst_null, 1, []), (.aastore, 1, []), (.iinc 3 1, 3, []), (.goto (-12), 3, [27])]),
  (42, [(.return_, 1, [])])]
/-- QueueBroker.publish(IIIII)I -/
def bk_39 : List (Nat × List Ins) := [(0, [(.iload_n 1, 1, []), (.invokestatic 107, 3, [40, 1, 1, 383]), (.ifCond .eq 28, 3, [32]), (.aload_n 0, 1, []), (.iload_n 2, 1, []), (.invokevirtual 72, 3, [11, 1, 1, 226, 9]), (.ifCond .eq 20, 3, [32]), (.iload_n 3, 1, []), (.invokestatic 110, 3, [41, 1, 1, 386]), (.ifCond .eq 13, 3, [32]), (.iload 5, 2, []), (.iconst 0, 1, []), (.iconst 3, 1, []), (.invokestatic 50, 3, [8, 3, 1, 215]), (.ifCond .ne 5, 3, [34])]),
  (32, [(.iconst (-1), 1, []), (.ireturn, 1, [0])]),
  (34, [(.aload_n 0, 1, []), (.getfield 23, 3, [9, 2, 188, 1]), (.iload_n 1, 1, []), (.aaload, 1, []), (.astore 6, 2, []), (.aload 6, 2, []), (.getfield 113, 3, [2, 1, 169, 0]), (.ifCond .eq 18, 3, [65]), (.aload 6, 2, []), (.getfield 116, 3, [2, 4, 174, 1]), (.invokevirtual 86, 3, [17, 0, 1, 247, 10]), (.iconst 4, 1, []), (.if_icmp .lt 6, 3, [65]), (.bipush (-2), 2, []), (.ireturn, 1, [0])]),
  (65, [(.new 119, 3, [7, 389]), (.dup, 1, []), (.iload 4, 2, []), (.iload_n 3, 1, []), (.iconst 0, 1, []), (.iload 5, 2, []), (.iconst 1, 1, []), (.iand, 1, []), (.ifCond .eq 7, 3, [84]), (.iconst 1, 1, []), (.goto 4, 3, [85])]),
  (84, [(.iconst 0, 1, [])]),
  (85, [(.invokespecial 121, 3, [42, 4, 0, 391, 7]), (.astore 7, 2, []), (.aload 6, 2, []), (.getfield 113, 3, [2, 1, 169, 0]), (.ifCond .eq 26, 3, [121]), (.aload 6, 2, []), (.getfield 116, 3, [2, 4, 174, 1]), (.new 124, 3, [5, 413]), (.dup, 1, []), (.iload_n 2, 1, []), (.aload 7, 2, []), (.iconst 0, 1, []), (.invokespecial 126, 3, [43, 3, 0, 415, 5]), (.invokevirtual 95, 3, [23, 1, 1, 284, 10]), (.pop, 1, []), (.bipush 100, 2, []), (.ireturn, 1, [0])]),
  (121, [(.aload_n 0, 1, []), (.iload_n 2, 1, []), (.iload_n 3, 1, []), (.invokevirtual 129, 3, [44, 2, 1, 432, 9]), (.istore 8, 2, []), (.iload 8, 2, []), (.ifCond .ne 13, 3, [144]), (.iload 5, 2, []), (.iconst 2, 1, []), (.iand, 1, []), (.ifCond .eq 6, 3, [144]), (.bipush (-4), 2, []), (.ireturn, 1, [0])]),
  (144, [(.aload_n 0, 1, []), (.iload_n 2, 1, []), (.aload 7, 2, []), (.invokevirtual 133, 3, [48, 2, 0, 446, 9]), (.aload_n 0, 1, []), (.invokevirtual 137, 3, [54, 0, 0, 504, 9]), (.iload 8, 2, []), (.ireturn, 1, [0])])]
/-- QueueBroker.isChannel(I)Z -/
def bk_40 : List (Nat × List Ins) := [(0, [(.iload_n 0, 1, []), (.iconst 0, 1, []), (.iconst 3, 1, []), (.invokestatic 50, 3, [8, 3, 1, 215]), (.ireturn, 1, [4])])]
/-- QueueBroker.isKey(I)Z -/
def bk_41 : List (Nat × List Ins) := [(0, [(.iconst 0, 1, []), (.istore_n 1, 1, [])]),
  (2, [(.iload_n 1, 1, []), (.bipush 8, 2, []), (.if_icmp .ge 21, 3, [26]), (.iload_n 0, 1, []), (.iload_n 1, 1, []), (.invokestatic 233, 3, [15, 2, 1, 240]), (.bipush 14, 2, []), (.if_icmp .lt 5, 3, [20]), (.iconst 0, 1, []), (.ireturn, 1, [4])]),
  (20, [(.iinc 1 1, 3, []), (.goto (-21), 3, [2])]),
  (26, [(.iload_n 0, 1, []), (.invokestatic 79, 3, [13, 1, 1, 234]), (.ireturn, 1, [4])])]
/-- QueueBroker$Message.<init>(IIIZ)V -/
def bk_42 : List (Nat × List Ins) := [(0, [(.aload_n 0, 1, []), (.invokespecial 1, 3, [394]), (.aload_n 0, 1, []), (.iload_n 1, 1, []), (.putfield 7, 3, [7, 0, 395, 0]), (.aload_n 0, 1, []), (.iload_n 2, 1, []), (.putfield 13, 3, [7, 1, 397, 0]), (.aload_n 0, 1, []), (.iload_n 3, 1, []), (.putfield 16, 3, [7, 2, 399, 0]), (.aload_n 0, 1, []), (.iload 4, 2, []), (.putfield 19, 3, [7, 3, 401, 4]), (.return_, 1, [])])]
/-- QueueBroker$Deed.<init>(ILQueueBroker$Message;I)V -/
def bk_43 : List (Nat × List Ins) := [(0, [(.aload_n 0, 1, []), (.invokespecial 1, 3, [418]), (.aload_n 0, 1, []), (.iload_n 1, 1, []), (.putfield 7, 3, [5, 0, 419, 0]), (.aload_n 0, 1, []), (.aload_n 2, 1, []), (.putfield 13, 3, [5, 1, 421, 2]), (.aload_n 0, 1, []), (.iload_n 3, 1, []), (.putfield 17, 3, [5, 2, 423, 0]), (.return_, 1, [])])]
/-- QueueBroker.countChosen(II)I -/
def bk_44 : List (Nat × List Ins) := [(0, [(.iconst 0, 1, []), (.istore_n 3, 1, []), (.iconst 0, 1, []), (.istore 4, 2, [])]),
  (5, [(.iload 4, 2, []), (.bipush 6, 2, []), (.if_icmp .ge 23, 3, [32]), (.aload_n 0, 1, []), (.iload_n 1, 1, []), (.iload 4, 2, []), (.iload_n 2, 1, []), (.invokevirtual 255, 3, [45, 3, 1, 436, 9]), (.ifCond .eq 6, 3, [26]), (.iinc 3 1, 3, [])]),
  (26, [(.iinc 4 1, 3, []), (.goto (-24), 3, [5])]),
  (32, [(.iload_n 3, 1, []), (.ireturn, 1, [0])])]
/-- QueueBroker.isChosen(III)Z -/
def bk_45 : List (Nat × List Ins) := [(0, [(.aload_n 0, 1, []), (.getfield 11, 3, [9, 0, 186, 1]), (.iload_n 1, 1, []), (.aaload, 1, []), (.getfield 58, 3, [6, 1, 117, 0]), (.istore 4, 2, []), (.iconst 0, 1, []), (.istore 5, 2, [])]),
  (14, [(.iload 5, 2, []), (.aload_n 0, 1, []), (.getfield 30, 3, [9, 3, 189, 1]), (.invokevirtual 86, 3, [17, 0, 1, 247, 10]), (.if_icmp .ge 76, 3, [99]), (.aload_n 0, 1, []), (.getfield 30, 3, [9, 3, 189, 1]), (.iload 5, 2, []), (.invokevirtual 211, 3, [18, 1, 2, 251, 10]), (.checkcast 90, 3, [1, 265, 1008]), (.astore 6, 2, []), (.aload 6, 2, []), (.getfield 242, 3, [1, 0, 272, 0]), (.iload_n 1, 1, []), (.if_icmp .ne 47, 3, [93]), (.aload 6, 2, []), (.getfield 245, 3, [1, 1, 274, 0]), (.iload_n 2, 1, []), (.if_icmp .ne 38, 3, [93]), (.iload 4, 2, []), (.iconst 1, 1, []), (.if_icmp .eq 30, 3, [91]), (.aload 6, 2, []), (.getfield 248, 3, [1, 2, 276, 0]), (.iload_n 3, 1, []), (.if_icmp .eq 21, 3, [91]), (.iload 4, 2, []), (.iconst 2, 1, []), (.if_icmp .ne 17, 3, [93]), (.aload 6, 2, []), (.getfield 248, 3, [1, 2, 276, 0]), (.iload_n 3, 1, []), (.invokestatic 251, 3, [46, 2, 1, 440]), (.ifCond .eq 5, 3, [93])]),
  (91, [(.iconst 1, 1, []), (.ireturn, 1, [4])]),
  (93, [(.iinc 5 1, 3, []), (.goto (-82), 3, [14])]),
  (99, [(.iconst 0, 1, []), (.ireturn, 1, [4])])]
/-- QueueBroker.isMatch(II)Z -/
def bk_46 : List (Nat × List Ins) := [(0, [(.iload_n 0, 1, []), (.invokestatic 236, 3, [14, 1, 1, 237]), (.istore_n 2, 1, []), (.iload_n 1, 1, []), (.invokestatic 236, 3, [14, 1, 1, 237]), (.istore_n 3, 1, []), (.iconst 1, 1, []), (.iload_n 3, 1, []), (.iconst 1, 1, []), (.iadd, 1, []), (.ishl, 1, []), (.iconst 1, 1, []), (.isub, 1, []), (.istore 4, 2, []), (.iconst 1, 1, []), (.istore 5, 2, []), (.iconst 0, 1, []), (.istore 6, 2, [])]),
  (25, [(.iload 6, 2, []), (.iload_n 2, 1, []), (.if_icmp .ge 26, 3, [54]), (.iload 4, 2, []), (.iload 5, 2, []), (.iload_n 0, 1, []), (.iload 6, 2, []), (.invokestatic 233, 3, [15, 2, 1, 240]), (.iload_n 1, 1, []), (.invokestatic 239, 3, [47, 3, 1, 443]), (.iand, 1, []), (.istore 5, 2, []), (.iinc 6 1, 3, []), (.goto (-26), 3, [25])]),
  (54, [(.iload 5, 2, []), (.iload_n 3, 1, []), (.ishr, 1, []), (.iconst 1, 1, []), (.iand, 1, []), (.ifCond .eq 7, 3, [67]), (.iconst 1, 1, []), (.goto 4, 3, [68])]),
  (67, [(.iconst 0, 1, [])]),
  (68, [(.ireturn, 1, [4])])]
/-- QueueBroker.reachFurther(III)I -/
def bk_47 : List (Nat × List Ins) := [(0, [(.iload_n 1, 1, []), (.bipush 14, 2, []), (.if_icmp .ne 7, 3, [10]), (.iload_n 0, 1, []), (.iconst 1, 1, []), (.ishl, 1, []), (.ireturn, 1, [0])]),
  (10, [(.iload_n 1, 1, []), (.bipush 15, 2, []), (.if_icmp .ne 11, 3, [24]), (.iload_n 0, 1, []), (.iload_n 0, 1, []), (.ineg, 1, []), (.iand, 1, []), (.istore_n 3, 1, []), (.iload_n 3, 1, []), (.ineg, 1, []), (.ireturn, 1, [0])]),
  (24, [(.iconst 0, 1, []), (.istore_n 3, 1, []), (.iconst 0, 1, []), (.istore 4, 2, [])]),
  (29, [(.iload 4, 2, []), (.bipush 8, 2, []), (.if_icmp .ge 37, 3, [70]), (.iload_n 0, 1, []), (.iload 4, 2, []), (.ishr, 1, []), (.iconst 1, 1, []), (.iand, 1, []), (.ifCond .eq 22, 3, [64]), (.iload_n 2, 1, []), (.iload 4, 2, []), (.invokestatic 233, 3, [15, 2, 1, 240]), (.iload_n 1, 1, []), (.if_icmp .ne 12, 3, [64]), (.iload_n 3, 1, []), (.iconst 1, 1, []), (.iload 4, 2, []), (.iconst 1, 1, []), (.iadd, 1, []), (.ishl, 1, []), (.ior, 1, []), (.istore_n 3, 1, [])]),
  (64, [(.iinc 4 1, 3, []), (.goto (-38), 3, [29])]),
  (70, [(.iload_n 3, 1, []), (.ireturn, 1, [0])])]
/-- QueueBroker.route(ILQueueBroker$Message;)V -/
def bk_48 : List (Nat × List Ins) := [(0, [(.iconst 0, 1, []), (.istore_n 3, 1, [])]),
  (2, [(.iload_n 3, 1, []), (.bipush 6, 2, []), (.if_icmp .ge 28, 3, [33]), (.aload_n 0, 1, []), (.iload_n 1, 1, []), (.iload_n 3, 1, []), (.aload_n 2, 1, []), (.getfield 258, 3, [7, 1, 398, 0]), (.invokevirtual 255, 3, [45, 3, 1, 436, 9]), (.ifCond .eq 9, 3, [27]), (.aload_n 0, 1, []), (.iload_n 3, 1, []), (.aload_n 2, 1, []), (.invokevirtual 261, 3, [49, 2, 0, 450, 9])]),
  (27, [(.iinc 3 1, 3, []), (.goto (-28), 3, [2])]),
  (33, [(.return_, 1, [])])]
/-- QueueBroker.put(ILQueueBroker$Message;)V -/
def bk_49 : List (Nat × List Ins) := [(0, [(.aload_n 0, 1, []), (.getfield 17, 3, [9, 1, 187, 1]), (.iload_n 1, 1, []), (.aaload, 1, []), (.astore_n 3, 1, []), (.aload_n 0, 1, []), (.dup, 1, []), (.getfield 37, 3, [9, 5, 191, 0]), (.iconst 1, 1, []), (.iadd, 1, []), (.putfield 37, 3, [9, 5, 191, 0]), (.aload_n 3, 1, []), (.new 165, 3, [4, 454]), (.dup, 1, []), (.aload_n 2, 1, []), (.iload_n 1, 1, []), (.aload_n 0, 1, []), (.getfield 37, 3, [9, 5, 191, 0]), (.invokespecial 264, 3, [50, 3, 0, 456, 4]), (.invokevirtual 267, 3, [51, 1, 0, 489, 8]), (.aload_n 3, 1, []), (.getfield 154, 3, [8, 4, 143, 1]), (.invokevirtual 86, 3, [17, 0, 1, 247, 10]), (.aload_n 3, 1, []), (.getfield 65, 3, [8, 1, 137, 0]), (.isub, 1, []), (.istore 4, 2, [])]),
  (48, [(.iload 4, 2, []), (.ifCond .le 28, 3, [78]), (.aload_n 0, 1, []), (.getfield 34, 3, [9, 4, 190, 1]), (.aload_n 3, 1, []), (.getfield 154, 3, [8, 4, 143, 1]), (.iconst 0, 1, []), (.invokevirtual 99, 3, [32, 1, 2, 346, 10]), (.checkcast 165, 3, [4, 454, 1009]), (.invokevirtual 95, 3, [23, 1, 1, 284, 10]), (.pop, 1, []), (.iinc 4 (-1), 3, []), (.goto (-27), 3, [48])]),
  (78, [(.return_, 1, [])])]
/-- QueueBroker$Copy.<init>(LQueueBroker$Message;II)V -/
def bk_50 : List (Nat × List Ins) := [(0, [(.aload_n 0, 1, []), (.invokespecial 3, 3, [459]), (.aload_n 0, 1, []), (.iconst 0, 1, []), (.putfield 9, 3, [4, 3, 468, 4]), (.aload_n 0, 1, []), (.iconst 0, 1, []), (.putfield 15, 3, [4, 4, 470, 0]), (.aload_n 0, 1, []), (.iconst (-1), 1, []), (.putfield 19, 3, [4, 5, 473, 0]), (.aload_n 0, 1, []), (.aload_n 1, 1, []), (.putfield 22, 3, [4, 0, 460, 1]), (.aload_n 0, 1, []), (.iload_n 2, 1, []), (.putfield 26, 3, [4, 1, 463, 0]), (.aload_n 0, 1, []), (.iload_n 3, 1, []), (.putfield 29, 3, [4, 2, 466, 0]), (.return_, 1, [])])]
/-- QueueBroker$Queue.insert(LQueueBroker$Copy;)V -/
def bk_51 : List (Nat × List Ins) := [(0, [(.aload_n 0, 1, []), (.getfield 28, 3, [8, 4, 142, 1]), (.invokevirtual 35, 3, [17, 0, 1, 493, 10]), (.istore_n 2, 1, [])]),
  (8, [(.iload_n 2, 1, []), (.ifCond .le 32, 3, [41]), (.aload_n 0, 1, []), (.getfield 28, 3, [8, 4, 142, 1]), (.iload_n 2, 1, []), (.iconst 1, 1, []), (.isub, 1, []), (.invokevirtual 39, 3, [18, 1, 2, 494, 10]), (.checkcast 43, 3, [4, 495, 1009]), (.getfield 45, 3, [4, 2, 467, 0]), (.aload_n 1, 1, []), (.getfield 45, 3, [4, 2, 467, 0]), (.if_icmp .le 9, 3, [41]), (.iinc 2 (-1), 3, []), (.goto (-30), 3, [8])]),
  (41, [(.aload_n 0, 1, []), (.getfield 28, 3, [8, 4, 142, 1]), (.iload_n 2, 1, []), (.aload_n 1, 1, []), (.invokevirtual 48, 3, [52, 2, 0, 496, 10]), (.return_, 1, [])])]
/-- java/util/ArrayList.add(ILjava/lang/Object;)V -/
def bk_52 : List (Nat × List Ins) := [(0, [(.aload_n 0, 1, []), (.iload_n 1, 1, []), (.invokevirtual 135, 3, [53, 1, 0, 500, 10]), (.aload_n 0, 1, []), (.dup, 1, []), (.getfield 63, 3, [10, 0, 100, 0]), (.iconst 1, 1, []), (.iadd, 1, []), (.putfield 63, 3, [10, 0, 100, 0]), (.aload_n 0, 1, []), (.getfield 48, 3, [10, 2, 98, 0]), (.dup, 1, []), (.istore_n 3, 1, []), (.aload_n 0, 1, []), (.getfield 9, 3, [10, 1, 97, 1]), (.dup, 1, []), (.astore 4, 2, []), (.arraylength, 1, []), (.if_icmp .ne 9, 3, [38]), (.aload_n 0, 1, []), (.invokevirtual 129, 3, [25, 0, 2, 292, 10]), (.astore 4, 2, [])]),
  (38, [(.aload 4, 2, []), (.iload_n 1, 1, []), (.aload 4, 2, []), (.iload_n 1, 1, []), (.iconst 1, 1, []), (.iadd, 1, []), (.iload_n 3, 1, []), (.iload_n 1, 1, []), (.isub, 1, []), (.invokestatic 112, 3, [2, 354]), (.aload 4, 2, []), (.iload_n 1, 1, []), (.aload_n 2, 1, []), (.aastore, 1, []), (.aload_n 0, 1, []), (.iload_n 3, 1, []), (.iconst 1, 1, []), (.iadd, 1, []), (.putfield 48, 3, [10, 2, 98, 0]), (.return_, 1, [])])]
/-- java/util/ArrayList.rangeCheckForAdd(I)V -/
def bk_53 : List (Nat × List Ins) := [(0, [(.iload_n 1, 1, []), (.aload_n 0, 1, []), (.getfield 48, 3, [10, 2, 98, 0]), (.if_icmp .gt 7, 3, [12]), (.iload_n 1, 1, []), (.ifCond .ge 16, 3, [25])]),
  (12, [(.new 187, 3, [])]),
  (25, [(.return_, 1, [])])]
/-- QueueBroker.routeLetters()V -/
def bk_54 : List (Nat × List Ins) := [(0, [(.iconst 0, 1, []), (.istore_n 1, 1, []), (.iconst 0, 1, []), (.istore_n 2, 1, [])]),
  (4, [(.iload_n 2, 1, []), (.aload_n 0, 1, []), (.getfield 34, 3, [9, 4, 190, 1]), (.invokevirtual 86, 3, [17, 0, 1, 247, 10]), (.if_icmp .ge 80, 3, [92]), (.iload_n 2, 1, []), (.ldc_w 270, 3, [1000000, 508]), (.if_icmp .ge 73, 3, [92]), (.aload_n 0, 1, []), (.getfield 34, 3, [9, 4, 190, 1]), (.iload_n 2, 1, []), (.invokevirtual 211, 3, [18, 1, 2, 251, 10]), (.checkcast 165, 3, [4, 454, 1009]), (.astore_n 3, 1, []), (.iload_n 1, 1, []), (.iconst 3, 1, []), (.if_icmp .ge 40, 3, [76]), (.aload_n 0, 1, []), (.aload_n 3, 1, []), (.invokevirtual 271, 3, [55, 1, 1, 509, 9]), (.ifCond .eq 32, 3, [76]), (.iinc 1 1, 3, []), (.aload_n 0, 1, []), (.aload_n 0, 1, []), (.getfield 17, 3, [9, 1, 187, 1]), (.aload_n 3, 1, []), (.getfield 275, 3, [4, 1, 465, 0]), (.aaload, 1, []), (.getfield 68, 3, [8, 2, 139, 0]), (.aload_n 3, 1, []), (.getfield 276, 3, [4, 0, 462, 1]), (.invokevirtual 280, 3, [56, 0, 2, 513, 7]), (.invokevirtual 133, 3, [48, 2, 0, 446, 9]), (.goto 13, 3, [86])]),
  (76, [(.aload_n 0, 1, []), (.dup, 1, []), (.getfield 44, 3, [9, 7, 193, 0]), (.iconst 1, 1, []), (.iadd, 1, []), (.putfield 44, 3, [9, 7, 193, 0])]),
  (86, [(.iinc 2 1, 3, []), (.goto (-85), 3, [4])]),
  (92, [(.aload_n 0, 1, []), (.dup, 1, []), (.getfield 41, 3, [9, 6, 192, 0]), (.iload_n 1, 1, []), (.iadd, 1, []), (.putfield 41, 3, [9, 6, 192, 0]), (.aload_n 0, 1, []), (.getfield 34, 3, [9, 4, 190, 1]), (.invokevirtual 284, 3, [38, 0, 0, 519, 10]), (.return_, 1, [])])]
/-- QueueBroker.canGoOn(LQueueBroker$Copy;)Z -/
def bk_55 : List (Nat × List Ins) := [(0, [(.aload_n 0, 1, []), (.aload_n 0, 1, []), (.getfield 17, 3, [9, 1, 187, 1]), (.aload_n 1, 1, []), (.getfield 275, 3, [4, 1, 465, 0]), (.aaload, 1, []), (.getfield 68, 3, [8, 2, 139, 0]), (.invokevirtual 72, 3, [11, 1, 1, 226, 9]), (.ifCond .eq 18, 3, [34]), (.aload_n 1, 1, []), (.getfield 276, 3, [4, 0, 462, 1]), (.getfield 287, 3, [7, 2, 400, 0]), (.iconst 3, 1, []), (.if_icmp .ge 7, 3, [34]), (.iconst 1, 1, []), (.goto 4, 3, [35])]),
  (34, [(.iconst 0, 1, [])]),
  (35, [(.ireturn, 1, [4])])]
/-- QueueBroker$Message.withOneHopMore()LQueueBroker$Message; -/
def bk_56 : List (Nat × List Ins) := [(0, [(.new 8, 3, [7, 517]), (.dup, 1, []), (.aload_n 0, 1, []), (.getfield 7, 3, [7, 0, 395, 0]), (.aload_n 0, 1, []), (.getfield 13, 3, [7, 1, 397, 0]), (.aload_n 0, 1, []), (.getfield 16, 3, [7, 2, 399, 0]), (.iconst 1, 1, []), (.iadd, 1, []), (.aload_n 0, 1, []), (.getfield 19, 3, [7, 3, 401, 0]), (.invokespecial 23, 3, [42, 4, 0, 518, 7]), (.areturn, 1, [])])]
/-- QueueBroker.consume(IIZ)I -/
def bk_57 : List (Nat × List Ins) := [(0, [(.iload_n 1, 1, []), (.invokestatic 107, 3, [40, 1, 1, 383]), (.ifCond .eq 11, 3, [15]), (.aload_n 0, 1, []), (.iload_n 2, 1, []), (.invokevirtual 76, 3, [12, 1, 1, 230, 9]), (.ifCond .ne 5, 3, [17])]),
  (15, [(.iconst (-1), 1, []), (.ireturn, 1, [0])]),
  (17, [(.aload_n 0, 1, []), (.getfield 17, 3, [9, 1, 187, 1]), (.iload_n 2, 1, []), (.aaload, 1, []), (.iload_n 1, 1, []), (.invokevirtual 140, 3, [58, 1, 1, 524, 8]), (.iconst (-1), 1, []), (.if_icmp .eq 6, 3, [34]), (.bipush (-3), 2, []), (.ireturn, 1, [0])]),
  (34, [(.aload_n 0, 1, []), (.getfield 17, 3, [9, 1, 187, 1]), (.iload_n 2, 1, []), (.aaload, 1, []), (.getfield 143, 3, [8, 5, 145, 1]), (.new 146, 3, [3, 529]), (.dup, 1, []), (.iload_n 1, 1, []), (.iload_n 3, 1, []), (.invokespecial 148, 3, [59, 2, 0, 531, 3]), (.invokevirtual 95, 3, [23, 1, 1, 284, 10]), (.pop, 1, []), (.iconst 0, 1, []), (.ireturn, 1, [0])])]
/-- QueueBroker$Queue.findConsumer(I)I -/
def bk_58 : List (Nat × List Ins) := [(0, [(.iconst 0, 1, []), (.istore_n 2, 1, [])]),
  (2, [(.iload_n 2, 1, []), (.aload_n 0, 1, []), (.getfield 32, 3, [8, 5, 144, 1]), (.invokevirtual 35, 3, [17, 0, 1, 493, 10]), (.if_icmp .ge 29, 3, [39]), (.aload_n 0, 1, []), (.getfield 32, 3, [8, 5, 144, 1]), (.iload_n 2, 1, []), (.invokevirtual 39, 3, [18, 1, 2, 494, 10]), (.checkcast 52, 3, [3, 528, 1010]), (.getfield 54, 3, [3, 0, 536, 0]), (.iload_n 1, 1, []), (.if_icmp .ne 5, 3, [33]), (.iload_n 2, 1, []), (.ireturn, 1, [0])]),
  (33, [(.iinc 2 1, 3, []), (.goto (-34), 3, [2])]),
  (39, [(.iconst (-1), 1, []), (.ireturn, 1, [0])])]
/-- QueueBroker$Consumer.<init>(IZ)V -/
def bk_59 : List (Nat × List Ins) := [(0, [(.aload_n 0, 1, []), (.invokespecial 1, 3, [534]), (.aload_n 0, 1, []), (.iload_n 1, 1, []), (.putfield 7, 3, [3, 0, 535, 0]), (.aload_n 0, 1, []), (.iload_n 2, 1, []), (.putfield 13, 3, [3, 1, 538, 4]), (.return_, 1, [])])]
/-- QueueBroker.cancel(II)I -/
def bk_60 : List (Nat × List Ins) := [(0, [(.iload_n 1, 1, []), (.invokestatic 107, 3, [40, 1, 1, 383]), (.ifCond .eq 11, 3, [15]), (.aload_n 0, 1, []), (.iload_n 2, 1, []), (.invokevirtual 76, 3, [12, 1, 1, 230, 9]), (.ifCond .ne 5, 3, [17])]),
  (15, [(.iconst (-1), 1, []), (.ireturn, 1, [0])]),
  (17, [(.aload_n 0, 1, []), (.getfield 17, 3, [9, 1, 187, 1]), (.iload_n 2, 1, []), (.aaload, 1, []), (.iload_n 1, 1, []), (.invokevirtual 151, 3, [61, 1, 1, 549, 8]), (.ifCond .eq 7, 3, [34]), (.iconst 0, 1, []), (.goto 5, 3, [36])]),
  (34, [(.bipush (-3), 2, [])]),
  (36, [(.ireturn, 1, [0])])]
/-- QueueBroker$Queue.removeConsumer(I)Z -/
def bk_61 : List (Nat × List Ins) := [(0, [(.aload_n 0, 1, []), (.iload_n 1, 1, []), (.invokevirtual 57, 3, [58, 1, 1, 553, 8]), (.istore_n 2, 1, []), (.iload_n 2, 1, []), (.iconst (-1), 1, []), (.if_icmp .ne 5, 3, [13]), (.iconst 0, 1, []), (.ireturn, 1, [4])]),
  (13, [(.aload_n 0, 1, []), (.getfield 32, 3, [8, 5, 144, 1]), (.iload_n 2, 1, []), (.invokevirtual 61, 3, [32, 1, 2, 554, 10]), (.pop, 1, []), (.iconst 1, 1, []), (.ireturn, 1, [4])])]
/-- QueueBroker.deliver(I)I -/
def bk_62 : List (Nat × List Ins) := [(0, [(.aload_n 0, 1, []), (.iload_n 1, 1, []), (.invokevirtual 76, 3, [12, 1, 1, 230, 9]), (.ifCond .ne 5, 3, [10]), (.iconst (-1), 1, []), (.ireturn, 1, [0])]),
  (10, [(.aload_n 0, 1, []), (.getfield 17, 3, [9, 1, 187, 1]), (.iload_n 1, 1, []), (.aaload, 1, []), (.astore_n 2, 1, []), (.aload_n 2, 1, []), (.getfield 154, 3, [8, 4, 143, 1]), (.invokevirtual 157, 3, [63, 0, 1, 559, 10]), (.ifCond .eq 6, 3, [30]), (.bipush (-5), 2, []), (.ireturn, 1, [0])]),
  (30, [(.aload_n 0, 1, []), (.aload_n 2, 1, []), (.invokevirtual 161, 3, [64, 1, 1, 563, 9]), (.istore_n 3, 1, []), (.iload_n 3, 1, []), (.iconst (-1), 1, []), (.if_icmp .ne 6, 3, [44]), (.bipush (-6), 2, []), (.ireturn, 1, [0])]),
  (44, [(.aload_n 2, 1, []), (.getfield 143, 3, [8, 5, 145, 1]), (.iload_n 3, 1, []), (.invokevirtual 99, 3, [32, 1, 2, 346, 10]), (.checkcast 146, 3, [3, 529, 1010]), (.astore 4, 2, []), (.aload_n 2, 1, []), (.getfield 143, 3, [8, 5, 145, 1]), (.aload 4, 2, []), (.invokevirtual 95, 3, [23, 1, 1, 284, 10]), (.pop, 1, []), (.aload_n 2, 1, []), (.getfield 154, 3, [8, 4, 143, 1]), (.iconst 0, 1, []), (.invokevirtual 99, 3, [32, 1, 2, 346, 10]), (.checkcast 165, 3, [4, 454, 1009]), (.astore 5, 2, []), (.aload 4, 2, []), (.getfield 167, 3, [3, 1, 539, 0]), (.ifCond .ne 18, 3, [103]), (.aload_n 0, 1, []), (.getfield 23, 3, [9, 2, 188, 1]), (.aload 4, 2, []), (.getfield 170, 3, [3, 0, 537, 0]), (.aaload, 1, []), (.aload 5, 2, []), (.invokevirtual 173, 3, [65, 1, 0, 567, 2])]),
  (103, [(.aload 4, 2, []), (.getfield 170, 3, [3, 0, 537, 0]), (.ireturn, 1, [0])])]
/-- java/util/ArrayList.isEmpty()Z -/
def bk_63 : List (Nat × List Ins) := [(0, [(.aload_n 0, 1, []), (.getfield 48, 3, [10, 2, 98, 0]), (.ifCond .ne 7, 3, [11]), (.iconst 1, 1, []), (.goto 4, 3, [12])]),
  (11, [(.iconst 0, 1, [])]),
  (12, [(.ireturn, 1, [4])])]
/-- QueueBroker.findAbleConsumer(LQueueBroker$Queue;)I -/
def bk_64 : List (Nat × List Ins) := [(0, [(.iconst 0, 1, []), (.istore_n 2, 1, [])]),
  (2, [(.iload_n 2, 1, []), (.aload_n 1, 1, []), (.getfield 143, 3, [8, 5, 145, 1]), (.invokevirtual 86, 3, [17, 0, 1, 247, 10]), (.if_icmp .ge 57, 3, [67]), (.aload_n 1, 1, []), (.getfield 143, 3, [8, 5, 145, 1]), (.iload_n 2, 1, []), (.invokevirtual 211, 3, [18, 1, 2, 251, 10]), (.checkcast 146, 3, [3, 529, 1010]), (.astore_n 3, 1, []), (.aload_n 0, 1, []), (.getfield 23, 3, [9, 2, 188, 1]), (.aload_n 3, 1, []), (.getfield 170, 3, [3, 0, 537, 0]), (.aaload, 1, []), (.astore 4, 2, []), (.aload_n 3, 1, []), (.getfield 167, 3, [3, 1, 539, 0]), (.ifCond .ne 19, 3, [59]), (.aload 4, 2, []), (.getfield 218, 3, [2, 3, 172, 1]), (.invokevirtual 86, 3, [17, 0, 1, 247, 10]), (.aload 4, 2, []), (.getfield 189, 3, [2, 0, 167, 0]), (.if_icmp .ge 5, 3, [61])]),
  (59, [(.iload_n 2, 1, []), (.ireturn, 1, [0])]),
  (61, [(.iinc 2 1, 3, []), (.goto (-62), 3, [2])]),
  (67, [(.iconst (-1), 1, []), (.ireturn, 1, [0])])]
/-- QueueBroker$Channel.hold(LQueueBroker$Copy;)V -/
def bk_65 : List (Nat × List Ins) := [(0, [(.aload_n 0, 1, []), (.dup, 1, []), (.getfield 19, 3, [2, 2, 170, 0]), (.iconst 1, 1, []), (.iadd, 1, []), (.putfield 19, 3, [2, 2, 170, 0]), (.aload_n 1, 1, []), (.aload_n 0, 1, []), (.getfield 19, 3, [2, 2, 170, 0]), (.putfield 32, 3, [4, 4, 471, 0]), (.aload_n 1, 1, []), (.iconst (-1), 1, []), (.putfield 37, 3, [4, 5, 474, 0]), (.aload_n 0, 1, []), (.getfield 25, 3, [2, 3, 171, 1]), (.aload_n 1, 1, []), (.invokevirtual 40, 3, [23, 1, 1, 571, 10]), (.pop, 1, []), (.return_, 1, [])])]
/-- QueueBroker.settle(IIZI)I -/
def bk_66 : List (Nat × List Ins) := [(0, [(.iload_n 1, 1, []), (.invokestatic 107, 3, [40, 1, 1, 383]), (.ifCond .eq 25, 3, [29]), (.iload_n 2, 1, []), (.ifCond .lt 21, 3, [29]), (.iload_n 2, 1, []), (.ifCond .ne 7, 3, [19]), (.iload_n 3, 1, []), (.ifCond .eq 13, 3, [29])]),
  (19, [(.iload 4, 2, []), (.iconst 0, 1, []), (.iconst 2, 1, []), (.invokestatic 50, 3, [8, 3, 1, 215]), (.ifCond .ne 5, 3, [31])]),
  (29, [(.iconst (-1), 1, []), (.ireturn, 1, [0])]),
  (31, [(.aload_n 0, 1, []), (.getfield 23, 3, [9, 2, 188, 1]), (.iload_n 1, 1, []), (.aaload, 1, []), (.astore 5, 2, []), (.aload 5, 2, []), (.iload_n 2, 1, []), (.iload_n 3, 1, []), (.invokevirtual 177, 3, [67, 2, 1, 576, 2]), (.istore 6, 2, []), (.iload 6, 2, []), (.ifCond .ne 5, 3, [55]), (.iconst (-1), 1, []), (.ireturn, 1, [0])]),
  (55, [(.aload 5, 2, []), (.getfield 113, 3, [2, 1, 169, 0]), (.ifCond .eq 18, 3, [78]), (.aload 5, 2, []), (.getfield 116, 3, [2, 4, 174, 1]), (.invokevirtual 86, 3, [17, 0, 1, 247, 10]), (.iconst 4, 1, []), (.if_icmp .lt 6, 3, [78]), (.bipush (-2), 2, []), (.ireturn, 1, [0])]),
  (78, [(.aload 5, 2, []), (.getfield 116, 3, [2, 4, 174, 1]), (.invokevirtual 86, 3, [17, 0, 1, 247, 10]), (.istore 7, 2, []), (.aload 5, 2, []), (.iload_n 2, 1, []), (.iload_n 3, 1, []), (.iload 7, 2, []), (.invokevirtual 181, 3, [69, 3, 0, 584, 2]), (.aload 5, 2, []), (.getfield 113, 3, [2, 1, 169, 0]), (.ifCond .eq 26, 3, [128]), (.aload 5, 2, []), (.getfield 116, 3, [2, 4, 174, 1]), (.new 124, 3, [5, 413]), (.dup, 1, []), (.iconst (-1), 1, []), (.aconst_null, 1, []), (.iload 4, 2, []), (.invokespecial 126, 3, [43, 3, 0, 415, 5]), (.invokevirtual 95, 3, [23, 1, 1, 284, 10]), (.pop, 1, []), (.bipush 100, 2, []), (.ireturn, 1, [0])]),
  (128, [(.aload_n 0, 1, []), (.aload 5, 2, []), (.iload 7, 2, []), (.iload 4, 2, []), (.invokevirtual 185, 3, [70, 3, 0, 588, 9]), (.aload_n 0, 1, []), (.invokevirtual 137, 3, [54, 0, 0, 504, 9]), (.iload 6, 2, []), (.ireturn, 1, [0])])]
/-- QueueBroker$Channel.countSettled(IZ)I -/
def bk_67 : List (Nat × List Ins) := [(0, [(.iconst 0, 1, []), (.istore_n 3, 1, []), (.iconst 0, 1, []), (.istore 4, 2, [])]),
  (5, [(.iload 4, 2, []), (.aload_n 0, 1, []), (.getfield 25, 3, [2, 3, 171, 1]), (.invokevirtual 44, 3, [17, 0, 1, 367, 10]), (.if_icmp .ge 33, 3, [47]), (.aload_n 0, 1, []), (.aload_n 0, 1, []), (.getfield 25, 3, [2, 3, 171, 1]), (.iload 4, 2, []), (.invokevirtual 48, 3, [18, 1, 2, 368, 10]), (.checkcast 33, 3, [4, 369, 1009]), (.iload_n 1, 1, []), (.iload_n 2, 1, []), (.invokevirtual 52, 3, [68, 3, 1, 580, 2]), (.ifCond .eq 6, 3, [41]), (.iinc 3 1, 3, [])]),
  (41, [(.iinc 4 1, 3, []), (.goto (-39), 3, [5])]),
  (47, [(.iload_n 3, 1, []), (.ireturn, 1, [0])])]
/-- QueueBroker$Channel.isSettled(LQueueBroker$Copy;IZ)Z -/
def bk_68 : List (Nat × List Ins) := [(0, [(.aload_n 1, 1, []), (.getfield 37, 3, [4, 5, 474, 0]), (.iconst (-1), 1, []), (.if_icmp .eq 5, 3, [10]), (.iconst 0, 1, []), (.ireturn, 1, [4])]),
  (10, [(.iload_n 3, 1, []), (.ifCond .eq 23, 3, [34]), (.iload_n 2, 1, []), (.ifCond .eq 11, 3, [26]), (.aload_n 1, 1, []), (.getfield 32, 3, [4, 4, 471, 0]), (.iload_n 2, 1, []), (.if_icmp .gt 7, 3, [30])]),
  (26, [(.iconst 1, 1, []), (.goto 20, 3, [47])]),
  (30, [(.iconst 0, 1, []), (.goto 16, 3, [47])]),
  (34, [(.aload_n 1, 1, []), (.getfield 32, 3, [4, 4, 471, 0]), (.iload_n 2, 1, []), (.if_icmp .ne 7, 3, [46]), (.iconst 1, 1, []), (.goto 4, 3, [47])]),
  (46, [(.iconst 0, 1, [])]),
  (47, [(.ireturn, 1, [4])])]
/-- QueueBroker$Channel.markSettled(IZI)V -/
def bk_69 : List (Nat × List Ins) := [(0, [(.iconst 0, 1, []), (.istore 4, 2, [])]),
  (3, [(.iload 4, 2, []), (.aload_n 0, 1, []), (.getfield 25, 3, [2, 3, 171, 1]), (.invokevirtual 44, 3, [17, 0, 1, 367, 10]), (.if_icmp .ge 46, 3, [58]), (.aload_n 0, 1, []), (.aload_n 0, 1, []), (.getfield 25, 3, [2, 3, 171, 1]), (.iload 4, 2, []), (.invokevirtual 48, 3, [18, 1, 2, 368, 10]), (.checkcast 33, 3, [4, 369, 1009]), (.iload_n 1, 1, []), (.iload_n 2, 1, []), (.invokevirtual 52, 3, [68, 3, 1, 580, 2]), (.ifCond .eq 19, 3, [52]), (.aload_n 0, 1, []), (.getfield 25, 3, [2, 3, 171, 1]), (.iload 4, 2, []), (.invokevirtual 48, 3, [18, 1, 2, 368, 10]), (.checkcast 33, 3, [4, 369, 1009]), (.iload_n 3, 1, []), (.putfield 37, 3, [4, 5, 474, 0])]),
  (52, [(.iinc 4 1, 3, []), (.goto (-52), 3, [3])]),
  (58, [(.return_, 1, [])])]
/-- QueueBroker.settleMarked(LQueueBroker$Channel;II)V -/
def bk_70 : List (Nat × List Ins) := [(0, [(.aload_n 1, 1, []), (.getfield 218, 3, [2, 3, 172, 1]), (.invokevirtual 86, 3, [17, 0, 1, 247, 10]), (.istore 4, 2, []), (.iconst 0, 1, []), (.istore 5, 2, []), (.iconst 0, 1, []), (.istore 6, 2, [])]),
  (15, [(.iload 6, 2, []), (.iload 4, 2, []), (.if_icmp .ge 51, 3, [70]), (.aload_n 1, 1, []), (.getfield 218, 3, [2, 3, 172, 1]), (.iload 5, 2, []), (.invokevirtual 211, 3, [18, 1, 2, 251, 10]), (.checkcast 165, 3, [4, 454, 1009]), (.getfield 290, 3, [4, 5, 475, 0]), (.iload_n 2, 1, []), (.if_icmp .ne 23, 3, [61]), (.aload_n 0, 1, []), (.aload_n 1, 1, []), (.getfield 218, 3, [2, 3, 172, 1]), (.iload 5, 2, []), (.invokevirtual 99, 3, [32, 1, 2, 346, 10]), (.checkcast 165, 3, [4, 454, 1009]), (.iload_n 3, 1, []), (.invokevirtual 293, 3, [71, 2, 0, 592, 9]), (.goto 6, 3, [64])]),
  (61, [(.iinc 5 1, 3, [])]),
  (64, [(.iinc 6 1, 3, []), (.goto (-52), 3, [15])]),
  (70, [(.return_, 1, [])])]
/-- QueueBroker.settleCopy(LQueueBroker$Copy;I)V -/
def bk_71 : List (Nat × List Ins) := [(0, [(.iload_n 2, 1, []), (.iconst 1, 1, []), (.if_icmp .ne 11, 3, [13]), (.aload_n 0, 1, []), (.aload_n 1, 1, []), (.invokevirtual 297, 3, [72, 1, 0, 596, 9]), (.goto 17, 3, [27])]),
  (13, [(.iload_n 2, 1, []), (.iconst 2, 1, []), (.if_icmp .ne 12, 3, [27]), (.aload_n 0, 1, []), (.getfield 34, 3, [9, 4, 190, 1]), (.aload_n 1, 1, []), (.invokevirtual 95, 3, [23, 1, 1, 284, 10]), (.pop, 1, [])]),
  (27, [(.return_, 1, [])])]
/-- QueueBroker.giveBack(LQueueBroker$Copy;)V -/
def bk_72 : List (Nat × List Ins) := [(0, [(.aload_n 1, 1, []), (.iconst 1, 1, []), (.putfield 300, 3, [4, 3, 469, 4]), (.aload_n 0, 1, []), (.getfield 17, 3, [9, 1, 187, 1]), (.aload_n 1, 1, []), (.getfield 275, 3, [4, 1, 465, 0]), (.aaload, 1, []), (.aload_n 1, 1, []), (.invokevirtual 267, 3, [51, 1, 0, 489, 8]), (.return_, 1, [])])]
/-- QueueBroker.prefetch(II)I -/
def bk_73 : List (Nat × List Ins) := [(0, [(.iload_n 1, 1, []), (.invokestatic 107, 3, [40, 1, 1, 383]), (.ifCond .eq 13, 3, [17]), (.iload_n 2, 1, []), (.iconst 1, 1, []), (.bipush 12, 2, []), (.invokestatic 50, 3, [8, 3, 1, 215]), (.ifCond .ne 5, 3, [19])]),
  (17, [(.iconst (-1), 1, []), (.ireturn, 1, [0])]),
  (19, [(.aload_n 0, 1, []), (.getfield 23, 3, [9, 2, 188, 1]), (.iload_n 1, 1, []), (.aaload, 1, []), (.iload_n 2, 1, []), (.putfield 189, 3, [2, 0, 167, 0]), (.iconst 0, 1, []), (.ireturn, 1, [0])])]
/-- QueueBroker.begin(I)I -/
def bk_74 : List (Nat × List Ins) := [(0, [(.iload_n 1, 1, []), (.invokestatic 107, 3, [40, 1, 1, 383]), (.ifCond .ne 5, 3, [9]), (.iconst (-1), 1, []), (.ireturn, 1, [0])]),
  (9, [(.aload_n 0, 1, []), (.getfield 23, 3, [9, 2, 188, 1]), (.iload_n 1, 1, []), (.aaload, 1, []), (.getfield 113, 3, [2, 1, 169, 0]), (.ifCond .eq 6, 3, [24]), (.bipush (-3), 2, []), (.ireturn, 1, [0])]),
  (24, [(.aload_n 0, 1, []), (.getfield 23, 3, [9, 2, 188, 1]), (.iload_n 1, 1, []), (.aaload, 1, []), (.iconst 1, 1, []), (.putfield 113, 3, [2, 1, 169, 4]), (.iconst 0, 1, []), (.ireturn, 1, [0])])]
/-- QueueBroker.commit(I)I -/
def bk_75 : List (Nat × List Ins) := [(0, [(.iload_n 1, 1, []), (.invokestatic 107, 3, [40, 1, 1, 383]), (.ifCond .ne 5, 3, [9]), (.iconst (-1), 1, []), (.ireturn, 1, [0])]),
  (9, [(.aload_n 0, 1, []), (.getfield 23, 3, [9, 2, 188, 1]), (.iload_n 1, 1, []), (.aaload, 1, []), (.astore_n 2, 1, []), (.aload_n 2, 1, []), (.getfield 113, 3, [2, 1, 169, 0]), (.ifCond .ne 6, 3, [26]), (.bipush (-3), 2, []), (.ireturn, 1, [0])]),
  (26, [(.aload_n 2, 1, []), (.getfield 116, 3, [2, 4, 174, 1]), (.invokevirtual 86, 3, [17, 0, 1, 247, 10]), (.istore_n 3, 1, []), (.iconst 0, 1, []), (.istore 4, 2, [])]),
  (37, [(.iload 4, 2, []), (.iload_n 3, 1, []), (.if_icmp .ge 16, 3, [56]), (.aload_n 0, 1, []), (.aload_n 2, 1, []), (.iload 4, 2, []), (.invokevirtual 192, 3, [76, 2, 0, 612, 9]), (.iinc 4 1, 3, []), (.goto (-16), 3, [37])]),
  (56, [(.aload_n 2, 1, []), (.invokevirtual 196, 3, [77, 0, 0, 616, 2]), (.aload_n 0, 1, []), (.invokevirtual 137, 3, [54, 0, 0, 504, 9]), (.iload_n 3, 1, []), (.ireturn, 1, [0])])]
/-- QueueBroker.doDeed(LQueueBroker$Channel;I)V -/
def bk_76 : List (Nat × List Ins) := [(0, [(.aload_n 1, 1, []), (.getfield 116, 3, [2, 4, 174, 1]), (.iload_n 2, 1, []), (.invokevirtual 211, 3, [18, 1, 2, 251, 10]), (.checkcast 124, 3, [5, 413, 1011]), (.astore_n 3, 1, []), (.aload_n 3, 1, []), (.getfield 303, 3, [5, 1, 422, 2]), (.ifnonnull 16, 3, [32]), (.aload_n 0, 1, []), (.aload_n 1, 1, []), (.iload_n 2, 1, []), (.aload_n 3, 1, []), (.getfield 304, 3, [5, 2, 424, 0]), (.invokevirtual 185, 3, [70, 3, 0, 588, 9]), (.goto 26, 3, [55])]),
  (32, [(.aload_n 0, 1, []), (.aload_n 3, 1, []), (.getfield 307, 3, [5, 0, 420, 0]), (.invokevirtual 72, 3, [11, 1, 1, 226, 9]), (.ifCond .eq 15, 3, [55]), (.aload_n 0, 1, []), (.aload_n 3, 1, []), (.getfield 307, 3, [5, 0, 420, 0]), (.aload_n 3, 1, []), (.getfield 303, 3, [5, 1, 422, 2]), (.invokevirtual 133, 3, [48, 2, 0, 446, 9])]),
  (55, [(.return_, 1, [])])]
/-- QueueBroker$Channel.forgetDeeds()V -/
def bk_77 : List (Nat × List Ins) := [(0, [(.aload_n 0, 1, []), (.getfield 29, 3, [2, 4, 173, 1]), (.invokevirtual 62, 3, [38, 0, 0, 620, 10]), (.iconst 0, 1, []), (.istore_n 1, 1, [])]),
  (9, [(.iload_n 1, 1, []), (.aload_n 0, 1, []), (.getfield 25, 3, [2, 3, 171, 1]), (.invokevirtual 44, 3, [17, 0, 1, 367, 10]), (.if_icmp .ge 24, 3, [41]), (.aload_n 0, 1, []), (.getfield 25, 3, [2, 3, 171, 1]), (.iload_n 1, 1, []), (.invokevirtual 48, 3, [18, 1, 2, 368, 10]), (.checkcast 33, 3, [4, 369, 1009]), (.iconst (-1), 1, []), (.putfield 37, 3, [4, 5, 474, 0]), (.iinc 1 1, 3, []), (.goto (-29), 3, [9])]),
  (41, [(.return_, 1, [])])]
/-- QueueBroker.rollback(I)I -/
def bk_78 : List (Nat × List Ins) := [(0, [(.iload_n 1, 1, []), (.invokestatic 107, 3, [40, 1, 1, 383]), (.ifCond .ne 5, 3, [9]), (.iconst (-1), 1, []), (.ireturn, 1, [0])]),
  (9, [(.aload_n 0, 1, []), (.getfield 23, 3, [9, 2, 188, 1]), (.iload_n 1, 1, []), (.aaload, 1, []), (.getfield 113, 3, [2, 1, 169, 0]), (.ifCond .ne 6, 3, [24]), (.bipush (-3), 2, []), (.ireturn, 1, [0])]),
  (24, [(.aload_n 0, 1, []), (.getfield 23, 3, [9, 2, 188, 1]), (.iload_n 1, 1, []), (.aaload, 1, []), (.getfield 116, 3, [2, 4, 174, 1]), (.invokevirtual 86, 3, [17, 0, 1, 247, 10]), (.istore_n 2, 1, []), (.aload_n 0, 1, []), (.getfield 23, 3, [9, 2, 188, 1]), (.iload_n 1, 1, []), (.aaload, 1, []), (.invokevirtual 196, 3, [77, 0, 0, 616, 2]), (.iload_n 2, 1, []), (.ireturn, 1, [0])])]
/-- QueueBroker.close(I)I -/
def bk_79 : List (Nat × List Ins) := [(0, [(.iload_n 1, 1, []), (.invokestatic 107, 3, [40, 1, 1, 383]), (.ifCond .ne 5, 3, [9]), (.iconst (-1), 1, []), (.ireturn, 1, [0])]),
  (9, [(.aload_n 0, 1, []), (.iload_n 1, 1, []), (.invokevirtual 199, 3, [80, 1, 0, 629, 9]), (.iconst 0, 1, []), (.ireturn, 1, [0])])]
/-- QueueBroker.closeChannel(I)V -/
def bk_80 : List (Nat × List Ins) := [(0, [(.aload_n 0, 1, []), (.getfield 23, 3, [9, 2, 188, 1]), (.iload_n 1, 1, []), (.aaload, 1, []), (.astore_n 2, 1, []), (.iconst 0, 1, []), (.istore_n 3, 1, [])]),
  (9, [(.iload_n 3, 1, []), (.aload_n 2, 1, []), (.getfield 218, 3, [2, 3, 172, 1]), (.invokevirtual 86, 3, [17, 0, 1, 247, 10]), (.if_icmp .ge 24, 3, [41]), (.aload_n 0, 1, []), (.aload_n 2, 1, []), (.getfield 218, 3, [2, 3, 172, 1]), (.iload_n 3, 1, []), (.invokevirtual 211, 3, [18, 1, 2, 251, 10]), (.checkcast 165, 3, [4, 454, 1009]), (.invokevirtual 297, 3, [72, 1, 0, 596, 9]), (.iinc 3 1, 3, []), (.goto (-29), 3, [9])]),
  (41, [(.iconst 0, 1, []), (.istore_n 3, 1, [])]),
  (43, [(.iload_n 3, 1, []), (.bipush 6, 2, []), (.if_icmp .ge 20, 3, [66]), (.aload_n 0, 1, []), (.getfield 17, 3, [9, 1, 187, 1]), (.iload_n 3, 1, []), (.aaload, 1, []), (.iload_n 1, 1, []), (.invokevirtual 151, 3, [61, 1, 1, 549, 8]), (.pop, 1, []), (.iinc 3 1, 3, []), (.goto (-20), 3, [43])]),
  (66, [(.aload_n 2, 1, []), (.invokevirtual 308, 3, [81, 0, 0, 633, 2]), (.return_, 1, [])])]
/-- QueueBroker$Channel.reset()V -/
def bk_81 : List (Nat × List Ins) := [(0, [(.aload_n 0, 1, []), (.bipush 12, 2, []), (.putfield 9, 3, [2, 0, 166, 0]), (.aload_n 0, 1, []), (.iconst 0, 1, []), (.putfield 15, 3, [2, 1, 168, 4]), (.aload_n 0, 1, []), (.iconst 0, 1, []), (.putfield 19, 3, [2, 2, 170, 0]), (.aload_n 0, 1, []), (.getfield 25, 3, [2, 3, 171, 1]), (.invokevirtual 62, 3, [38, 0, 0, 620, 10]), (.aload_n 0, 1, []), (.getfield 29, 3, [2, 4, 173, 1]), (.invokevirtual 62, 3, [38, 0, 0, 620, 10]), (.return_, 1, [])])]
/-- QueueBroker.crash()I -/
def bk_82 : List (Nat × List Ins) := [(0, [(.iconst 0, 1, []), (.istore_n 1, 1, [])]),
  (2, [(.iload_n 1, 1, []), (.iconst 4, 1, []), (.if_icmp .ge 14, 3, [18]), (.aload_n 0, 1, []), (.iload_n 1, 1, []), (.invokevirtual 199, 3, [80, 1, 0, 629, 9]), (.iinc 1 1, 3, []), (.goto (-13), 3, [2])]),
  (18, [(.iconst 0, 1, []), (.istore_n 1, 1, [])]),
  (20, [(.iload_n 1, 1, []), (.iconst 5, 1, []), (.if_icmp .ge 26, 3, [48]), (.aload_n 0, 1, []), (.getfield 11, 3, [9, 0, 186, 1]), (.iload_n 1, 1, []), (.aaload, 1, []), (.getfield 61, 3, [6, 2, 119, 0]), (.ifCond .ne 8, 3, [42]), (.aload_n 0, 1, []), (.iload_n 1, 1, []), (.invokevirtual 203, 3, [83, 1, 0, 641, 9])]),
  (42, [(.iinc 1 1, 3, []), (.goto (-25), 3, [20])]),
  (48, [(.iconst 0, 1, []), (.istore_n 1, 1, []), (.iconst 0, 1, []), (.istore_n 2, 1, [])]),
  (52, [(.iload_n 2, 1, []), (.bipush 6, 2, []), (.if_icmp .ge 51, 3, [106]), (.aload_n 0, 1, []), (.getfield 17, 3, [9, 1, 187, 1]), (.iload_n 2, 1, []), (.aaload, 1, []), (.getfield 71, 3, [8, 3, 141, 0]), (.ifCond .ne 9, 3, [76]), (.aload_n 0, 1, []), (.iload_n 2, 1, []), (.invokevirtual 103, 3, [35, 1, 1, 359, 9]), (.pop, 1, [])]),
  (76, [(.aload_n 0, 1, []), (.getfield 17, 3, [9, 1, 187, 1]), (.iload_n 2, 1, []), (.aaload, 1, []), (.invokevirtual 206, 3, [84, 0, 0, 645, 8]), (.iload_n 1, 1, []), (.aload_n 0, 1, []), (.getfield 17, 3, [9, 1, 187, 1]), (.iload_n 2, 1, []), (.aaload, 1, []), (.getfield 154, 3, [8, 4, 143, 1]), (.invokevirtual 86, 3, [17, 0, 1, 247, 10]), (.iadd, 1, []), (.istore_n 1, 1, []), (.iinc 2 1, 3, []), (.goto (-51), 3, [52])]),
  (106, [(.iload_n 1, 1, []), (.ireturn, 1, [0])])]
/-- QueueBroker.forgetExchange(I)V -/
def bk_83 : List (Nat × List Ins) := [(0, [(.aload_n 0, 1, []), (.getfield 11, 3, [9, 0, 186, 1]), (.iload_n 1, 1, []), (.aaload, 1, []), (.iconst 0, 1, []), (.putfield 54, 3, [6, 0, 115, 4]), (.aload_n 0, 1, []), (.getfield 30, 3, [9, 3, 189, 1]), (.invokevirtual 86, 3, [17, 0, 1, 247, 10]), (.iconst 1, 1, []), (.isub, 1, []), (.istore_n 2, 1, [])]),
  (20, [(.iload_n 2, 1, []), (.ifCond .lt 36, 3, [57]), (.aload_n 0, 1, []), (.getfield 30, 3, [9, 3, 189, 1]), (.iload_n 2, 1, []), (.invokevirtual 211, 3, [18, 1, 2, 251, 10]), (.checkcast 90, 3, [1, 265, 1008]), (.getfield 242, 3, [1, 0, 272, 0]), (.iload_n 1, 1, []), (.if_icmp .ne 12, 3, [51]), (.aload_n 0, 1, []), (.getfield 30, 3, [9, 3, 189, 1]), (.iload_n 2, 1, []), (.invokevirtual 99, 3, [32, 1, 2, 346, 10]), (.pop, 1, [])]),
  (51, [(.iinc 2 (-1), 3, []), (.goto (-34), 3, [20])]),
  (57, [(.return_, 1, [])])]
/-- QueueBroker$Queue.keepPersistent()V -/
def bk_84 : List (Nat × List Ins) := [(0, [(.aload_n 0, 1, []), (.getfield 28, 3, [8, 4, 142, 1]), (.invokevirtual 35, 3, [17, 0, 1, 493, 10]), (.iconst 1, 1, []), (.isub, 1, []), (.istore_n 1, 1, [])]),
  (10, [(.iload_n 1, 1, []), (.ifCond .lt 38, 3, [49]), (.aload_n 0, 1, []), (.getfield 28, 3, [8, 4, 142, 1]), (.iload_n 1, 1, []), (.invokevirtual 39, 3, [18, 1, 2, 494, 10]), (.checkcast 43, 3, [4, 495, 1009]), (.getfield 64, 3, [4, 0, 461, 1]), (.getfield 68, 3, [7, 3, 402, 0]), (.ifCond .ne 12, 3, [43]), (.aload_n 0, 1, []), (.getfield 28, 3, [8, 4, 142, 1]), (.iload_n 1, 1, []), (.invokevirtual 61, 3, [32, 1, 2, 554, 10]), (.pop, 1, [])]),
  (43, [(.iinc 1 (-1), 3, []), (.goto (-36), 3, [10])]),
  (49, [(.return_, 1, [])])]
/-- QueueBroker.ready(III)J -/
def bk_85 : List (Nat × List Ins) := [(0, [(.iload_n 1, 1, []), (.iconst 0, 1, []), (.iconst 5, 1, []), (.invokestatic 50, 3, [8, 3, 1, 215]), (.ifCond .eq 25, 3, [31]), (.iload_n 2, 1, []), (.iconst 0, 1, []), (.aload_n 0, 1, []), (.getfield 17, 3, [9, 1, 187, 1]), (.iload_n 1, 1, []), (.aaload, 1, []), (.getfield 154, 3, [8, 4, 143, 1]), (.invokevirtual 86, 3, [17, 0, 1, 247, 10]), (.iconst 1, 1, []), (.isub, 1, []), (.invokestatic 50, 3, [8, 3, 1, 215]), (.ifCond .ne 7, 3, [35])]),
  (31, [(.ldc2_w 209, 3, [18446743073709551616, 653]), (.lreturn, 1, [])]),
  (35, [(.aload_n 0, 1, []), (.getfield 17, 3, [9, 1, 187, 1]), (.iload_n 1, 1, []), (.aaload, 1, []), (.getfield 154, 3, [8, 4, 143, 1]), (.iload_n 2, 1, []), (.invokevirtual 211, 3, [18, 1, 2, 251, 10]), (.checkcast 165, 3, [4, 454, 1009]), (.iload_n 3, 1, []), (.invokestatic 214, 3, [86, 2, 3, 654]), (.lreturn, 1, [])])]
/-- QueueBroker.readyField(LQueueBroker$Copy;I)J -/
def bk_86 : List (Nat × List Ins) := [(0, [(.iload_n 1, 1, []), (.tableswitch 91 0 4 #[35, 44, 53, 62, 75], 35, [92, 36, 45, 54, 63, 76])]),
  (36, [(.aload_n 0, 1, []), (.getfield 276, 3, [4, 0, 462, 1]), (.getfield 315, 3, [7, 0, 396, 0]), (.i2l, 1, []), (.lreturn, 1, [])]),
  (45, [(.aload_n 0, 1, []), (.getfield 276, 3, [4, 0, 462, 1]), (.getfield 258, 3, [7, 1, 398, 0]), (.i2l, 1, []), (.lreturn, 1, [])]),
  (54, [(.aload_n 0, 1, []), (.getfield 276, 3, [4, 0, 462, 1]), (.getfield 287, 3, [7, 2, 400, 0]), (.i2l, 1, []), (.lreturn, 1, [])]),
  (63, [(.aload_n 0, 1, []), (.getfield 300, 3, [4, 3, 469, 0]), (.ifCond .eq 7, 3, [74]), (.lconst 1, 1, []), (.goto 4, 3, [75])]),
  (74, [(.lconst 0, 1, [])]),
  (75, [(.lreturn, 1, [])]),
  (76, [(.aload_n 0, 1, []), (.getfield 276, 3, [4, 0, 462, 1]), (.getfield 318, 3, [7, 3, 403, 0]), (.ifCond .eq 7, 3, [90]), (.lconst 1, 1, []), (.goto 4, 3, [91])]),
  (90, [(.lconst 0, 1, [])]),
  (91, [(.lreturn, 1, [])]),
  (92, [(.ldc2_w 209, 3, [18446743073709551616, 653]), (.lreturn, 1, [])])]
/-- QueueBroker.held(III)J -/
def bk_87 : List (Nat × List Ins) := [(0, [(.iload_n 1, 1, []), (.invokestatic 107, 3, [40, 1, 1, 383]), (.ifCond .eq 25, 3, [29]), (.iload_n 2, 1, []), (.iconst 0, 1, []), (.aload_n 0, 1, []), (.getfield 23, 3, [9, 2, 188, 1]), (.iload_n 1, 1, []), (.aaload, 1, []), (.getfield 218, 3, [2, 3, 172, 1]), (.invokevirtual 86, 3, [17, 0, 1, 247, 10]), (.iconst 1, 1, []), (.isub, 1, []), (.invokestatic 50, 3, [8, 3, 1, 215]), (.ifCond .ne 7, 3, [33])]),
  (29, [(.ldc2_w 209, 3, [18446743073709551616, 653]), (.lreturn, 1, [])]),
  (33, [(.aload_n 0, 1, []), (.getfield 23, 3, [9, 2, 188, 1]), (.iload_n 1, 1, []), (.aaload, 1, []), (.getfield 218, 3, [2, 3, 172, 1]), (.iload_n 2, 1, []), (.invokevirtual 211, 3, [18, 1, 2, 251, 10]), (.checkcast 165, 3, [4, 454, 1009]), (.iload_n 3, 1, []), (.invokestatic 221, 3, [88, 2, 3, 661]), (.lreturn, 1, [])])]
/-- QueueBroker.heldField(LQueueBroker$Copy;I)J -/
def bk_88 : List (Nat × List Ins) := [(0, [(.iload_n 1, 1, []), (.tableswitch 53 5 7 #[27, 33, 39], 27, [54, 28, 34, 40])]),
  (28, [(.aload_n 0, 1, []), (.getfield 321, 3, [4, 4, 472, 0]), (.i2l, 1, []), (.lreturn, 1, [])]),
  (34, [(.aload_n 0, 1, []), (.getfield 275, 3, [4, 1, 465, 0]), (.i2l, 1, []), (.lreturn, 1, [])]),
  (40, [(.aload_n 0, 1, []), (.getfield 290, 3, [4, 5, 475, 0]), (.iconst (-1), 1, []), (.if_icmp .ne 7, 3, [52]), (.lconst 0, 1, []), (.goto 4, 3, [53])]),
  (52, [(.lconst 1, 1, [])]),
  (53, [(.lreturn, 1, [])]),
  (54, [(.aload_n 0, 1, []), (.iload_n 1, 1, []), (.invokestatic 214, 3, [86, 2, 3, 654]), (.lreturn, 1, [])])]
/-- QueueBroker.count(II)I -/
def bk_89 : List (Nat × List Ins) := [(0, [(.iload_n 1, 1, []), (.tableswitch 200 0 7 #[47, 75, 103, 129, 148, 169, 174, 179], 47, [201, 48, 76, 104, 130, 149, 170, 175, 180])]),
  (48, [(.iload_n 2, 1, []), (.iconst 0, 1, []), (.iconst 5, 1, []), (.invokestatic 50, 3, [8, 3, 1, 215]), (.ifCond .eq 18, 3, [72]), (.aload_n 0, 1, []), (.getfield 17, 3, [9, 1, 187, 1]), (.iload_n 2, 1, []), (.aaload, 1, []), (.getfield 154, 3, [8, 4, 143, 1]), (.invokevirtual 86, 3, [17, 0, 1, 247, 10]), (.goto 6, 3, [75])]),
  (72, [(.sipush (-1000), 3, [])]),
  (75, [(.ireturn, 1, [0])]),
  (76, [(.iload_n 2, 1, []), (.iconst 0, 1, []), (.iconst 5, 1, []), (.invokestatic 50, 3, [8, 3, 1, 215]), (.ifCond .eq 18, 3, [100]), (.aload_n 0, 1, []), (.getfield 17, 3, [9, 1, 187, 1]), (.iload_n 2, 1, []), (.aaload, 1, []), (.getfield 143, 3, [8, 5, 145, 1]), (.invokevirtual 86, 3, [17, 0, 1, 247, 10]), (.goto 6, 3, [103])]),
  (100, [(.sipush (-1000), 3, [])]),
  (103, [(.ireturn, 1, [0])]),
  (104, [(.iload_n 2, 1, []), (.invokestatic 107, 3, [40, 1, 1, 383]), (.ifCond .eq 18, 3, [126]), (.aload_n 0, 1, []), (.getfield 23, 3, [9, 2, 188, 1]), (.iload_n 2, 1, []), (.aaload, 1, []), (.getfield 218, 3, [2, 3, 172, 1]), (.invokevirtual 86, 3, [17, 0, 1, 247, 10]), (.goto 6, 3, [129])]),
  (126, [(.sipush (-1000), 3, [])]),
  (129, [(.ireturn, 1, [0])]),
  (130, [(.iload_n 2, 1, []), (.invokestatic 107, 3, [40, 1, 1, 383]), (.ifCond .eq 11, 3, [145]), (.aload_n 0, 1, []), (.iload_n 2, 1, []), (.invokevirtual 224, 3, [90, 1, 1, 668, 9]), (.goto 6, 3, [148])]),
  (145, [(.sipush (-1000), 3, [])]),
  (148, [(.ireturn, 1, [0])]),
  (149, [(.iload_n 2, 1, []), (.iconst 0, 1, []), (.iconst 4, 1, []), (.invokestatic 50, 3, [8, 3, 1, 215]), (.ifCond .eq 11, 3, [166]), (.aload_n 0, 1, []), (.iload_n 2, 1, []), (.invokevirtual 227, 3, [91, 1, 1, 672, 9]), (.goto 6, 3, [169])]),
  (166, [(.sipush (-1000), 3, [])]),
  (169, [(.ireturn, 1, [0])]),
  (170, [(.aload_n 0, 1, []), (.getfield 41, 3, [9, 6, 192, 0]), (.ireturn, 1, [0])]),
  (175, [(.aload_n 0, 1, []), (.getfield 44, 3, [9, 7, 193, 0]), (.ireturn, 1, [0])]),
  (180, [(.iload_n 2, 1, []), (.iconst 0, 1, []), (.iconst 3, 1, []), (.invokestatic 50, 3, [8, 3, 1, 215]), (.ifCond .eq 11, 3, [197]), (.aload_n 0, 1, []), (.iload_n 2, 1, []), (.invokevirtual 230, 3, [92, 1, 1, 676, 9]), (.goto 6, 3, [200])]),
  (197, [(.sipush (-1000), 3, [])]),
  (200, [(.ireturn, 1, [0])]),
  (201, [(.sipush (-1000), 3, []), (.ireturn, 1, [0])])]
/-- QueueBroker.countDeeds(I)I -/
def bk_90 : List (Nat × List Ins) := [(0, [(.aload_n 0, 1, []), (.getfield 23, 3, [9, 2, 188, 1]), (.iload_n 1, 1, []), (.aaload, 1, []), (.getfield 113, 3, [2, 1, 169, 0]), (.ifCond .eq 18, 3, [27]), (.aload_n 0, 1, []), (.getfield 23, 3, [9, 2, 188, 1]), (.iload_n 1, 1, []), (.aaload, 1, []), (.getfield 116, 3, [2, 4, 174, 1]), (.invokevirtual 86, 3, [17, 0, 1, 247, 10]), (.goto 4, 3, [28])]),
  (27, [(.iconst (-1), 1, [])]),
  (28, [(.ireturn, 1, [0])])]
/-- QueueBroker.countBindings(I)I -/
def bk_91 : List (Nat × List Ins) := [(0, [(.iconst 0, 1, []), (.istore_n 2, 1, []), (.iconst 0, 1, []), (.istore_n 3, 1, [])]),
  (4, [(.iload_n 3, 1, []), (.aload_n 0, 1, []), (.getfield 30, 3, [9, 3, 189, 1]), (.invokevirtual 86, 3, [17, 0, 1, 247, 10]), (.if_icmp .ge 30, 3, [42]), (.aload_n 0, 1, []), (.getfield 30, 3, [9, 3, 189, 1]), (.iload_n 3, 1, []), (.invokevirtual 211, 3, [18, 1, 2, 251, 10]), (.checkcast 90, 3, [1, 265, 1008]), (.getfield 242, 3, [1, 0, 272, 0]), (.iload_n 1, 1, []), (.if_icmp .ne 6, 3, [36]), (.iinc 2 1, 3, [])]),
  (36, [(.iinc 3 1, 3, []), (.goto (-35), 3, [4])]),
  (42, [(.iload_n 2, 1, []), (.ireturn, 1, [0])])]
/-- QueueBroker.channelInFirstRow(I)I -/
def bk_92 : List (Nat × List Ins) := [(0, [(.iload_n 1, 1, []), (.aload_n 0, 1, []), (.getfield 17, 3, [9, 1, 187, 1]), (.iconst 0, 1, []), (.aaload, 1, []), (.getfield 143, 3, [8, 5, 145, 1]), (.invokevirtual 86, 3, [17, 0, 1, 247, 10]), (.if_icmp .ge 25, 3, [38]), (.aload_n 0, 1, []), (.getfield 17, 3, [9, 1, 187, 1]), (.iconst 0, 1, []), (.aaload, 1, []), (.getfield 143, 3, [8, 5, 145, 1]), (.iload_n 1, 1, []), (.invokevirtual 211, 3, [18, 1, 2, 251, 10]), (.checkcast 146, 3, [3, 529, 1010]), (.getfield 170, 3, [3, 0, 537, 0]), (.goto 4, 3, [39])]),
  (38, [(.iconst (-1), 1, [])]),
  (39, [(.ireturn, 1, [0])])]
/-- QueueBrokerModel.<init>()V -/
def bk_93 : List (Nat × List Ins) := [(0, [(.aload_n 0, 1, []), (.invokespecial 1, 3, [685]), (.aload_n 0, 1, []), (.iconst 5, 1, []), (.newarray .int, 2, [104]), (.putfield 7, 3, [11, 0, 686, 1]), (.aload_n 0, 1, []), (.bipush 6, 2, []), (.newarray .int, 2, [104]), (.putfield 13, 3, [11, 1, 687, 1]), (.aload_n 0, 1, []), (.bipush 6, 2, []), (.newarray .int, 2, [104]), (.putfield 16, 3, [11, 2, 688, 1]), (.aload_n 0, 1, []), (.iconst 5, 1, []), (.newarray .boolean, 2, [105]), (.putfield 19, 3, [11, 3, 689, 1]), (.aload_n 0, 1, []), (.bipush 6, 2, []), (.newarray .boolean, 2, [105]), (.putfield 23, 3, [11, 4, 690, 1]), (.aload_n 0, 1, []), (.bipush 24, 2, []), (.newarray .int, 2, [104]), (.putfield 26, 3, [11, 5, 691, 1]), (.aload_n 0, 1, []), (.bipush 24, 2, []), (.newarray .int, 2, [104]), (.putfield 29, 3, [11, 6, 692, 1]), (.aload_n 0, 1, []), (.bipush 24, 2, []), (.newarray .int, 2, [104]), (.putfield 32, 3, [11, 7, 693, 1]), (.aload_n 0, 1, []), (.bipush 25, 2, []), (.newarray .int, 2, [104]), (.putfield 35, 3, [11, 9, 695, 1]), (.aload_n 0, 1, []), (.bipush 25, 2, []), (.newarray .int, 2, [104]), (.putfield 38, 3, [11, 10, 696, 1]), (.aload_n 0, 1, []), (.bipush 25, 2, []), (.newarray .boolean, 2, [105]), (.putfield 41, 3, [11, 11, 697, 1]), (.aload_n 0, 1, []), (.iconst 4, 1, []), (.newarray .int, 2, [104]), (.putfield 44, 3, [11, 13, 699, 1]), (.aload_n 0, 1, []), (.iconst 4, 1, []), (.newarray .int, 2, [104]), (.putfield 47, 3, [11, 14, 700, 1]), (.aload_n 0, 1, []), (.iconst 4, 1, []), (.newarray .int, 2, [104]), (.putfield 50, 3, [11, 15, 701, 1]), (.aload_n 0, 1, []), (.iconst 4, 1, []), (.newarray .boolean, 2, [105]), (.putfield 53, 3, [11, 16, 702, 1]), (.aload_n 0, 1, []), (.bipush 16, 2, []), (.newarray .int, 2, [104]), (.putfield 56, 3, [11, 17, 703, 1]), (.aload_n 0, 1, []), (.bipush 16, 2, []), (.newarray .int, 2, [104]), (.putfield 59, 3, [11, 18, 704, 1]), (.aload_n 0, 1, []), (.bipush 16, 2, []), (.newarray .int, 2, [104]), (.putfield 62, 3, [11, 19, 705, 1]), (.aload_n 0, 1, []), (.bipush 16, 2, []), (.newarray .int, 2, [104]), (.putfield 65, 3, [11, 20, 706, 1]), (.aload_n 0, 1, []), (.sipush 400, 3, []), (.newarray .int, 2, [104]), (.putfield 68, 3, [11, 21, 707, 1]), (.aload_n 0, 1, []), (.sipush 400, 3, []), (.newarray .int, 2, [104]), (.putfield 71, 3, [11, 22, 708, 1]), (.aload_n 0, 1, []), (.sipush 400, 3, []), (.newarray .int, 2, [104]), (.putfield 74, 3, [11, 23, 709, 1]), (.aload_n 0, 1, []), (.sipush 400, 3, []), (.newarray .int, 2, [104]), (.putfield 77, 3, [11, 24, 710, 1]), (.aload_n 0, 1, []), (.sipush 400, 3, []), (.newarray .int, 2, [104]), (.putfield 80, 3, [11, 25, 711, 1]), (.aload_n 0, 1, []), (.sipush 400, 3, []), (.newarray .int, 2, [104]), (.putfield 83, 3, [11, 26, 712, 1]), (.aload_n 0, 1, []), (.sipush 400, 3, []), (.newarray .int, 2, [104]), (.putfield 86, 3, [11, 27, 713, 1]), (.aload_n 0, 1, []), (.sipush 400, 3, []), (.newarray .int, 2, [104]), (.putfield 89, 3, [11, 28, 714, 1]), (.aload_n 0, 1, []), (.sipush 400, 3, []), (.newarray .boolean, 2, [105]), (.putfield 92, 3, [11, 29, 715, 1]), (.aload_n 0, 1, []), (.sipush 400, 3, []), (.newarray .boolean, 2, [105]), (.putfield 95, 3, [11, 30, 716, 1]), (.aload_n 0, 1, []), (.sipush 450, 3, []), (.newarray .int, 2, [104]), (.putfield 98, 3, [11, 33, 719, 1]), (.aload_n 0, 1, []), (.sipush 450, 3, []), (.newarray .int, 2, [104]), (.putfield 101, 3, [11, 34, 720, 1]), (.aload_n 0, 1, []), (.sipush 450, 3, []), (.newarray .int, 2, [104]), (.putfield 104, 3, [11, 35, 721, 1]), (.aload_n 0, 1, []), (.sipush 450, 3, []), (.newarray .int, 2, [104]), (.putfield 107, 3, [11, 36, 722, 1]), (.aload_n 0, 1, []), (.sipush 450, 3, []), (.newarray .boolean, 2, [105]), (.putfield 110, 3, [11, 37, 723, 1]), (.aload_n 0, 1, []), (.bipush 81, 2, []), (.newarray .boolean, 2, [105]), (.putfield 113, 3, [11, 41, 727, 1]), (.aload_n 0, 1, []), (.bipush 6, 2, []), (.newarray .boolean, 2, [105]), (.putfield 116, 3, [11, 42, 728, 1]), (.iconst 0, 1, []), (.istore_n 1, 1, [])]),
  (303, [(.iload_n 1, 1, []), (.iconst 5, 1, []), (.if_icmp .ge 16, 3, [321]), (.aload_n 0, 1, []), (.getfield 7, 3, [11, 0, 686, 1]), (.iload_n 1, 1, []), (.iconst (-1), 1, []), (.iastore, 1, []), (.iinc 1 1, 3, []), (.goto (-15), 3, [303])]),
  (321, [(.iconst 0, 1, []), (.istore_n 1, 1, [])]),
  (323, [(.iload_n 1, 1, []), (.iconst 4, 1, []), (.if_icmp .ge 17, 3, [342]), (.aload_n 0, 1, []), (.getfield 44, 3, [11, 13, 699, 1]), (.iload_n 1, 1, []), (.bipush 12, 2, []), (.iastore, 1, []), (.iinc 1 1, 3, []), (.goto (-16), 3, [323])]),
  (342, [(.return_, 1, [])])]
/-- QueueBrokerModel.exchange(IIZ)I -/
def bk_94 : List (Nat × List Ins) := [(0, [(.iload_n 1, 1, []), (.iconst 5, 1, []), (.invokestatic 119, 3, [95, 2, 1, 822]), (.ifCond .eq 11, 3, [16]), (.iload_n 2, 1, []), (.iconst 3, 1, []), (.invokestatic 119, 3, [95, 2, 1, 822]), (.ifCond .ne 5, 3, [18])]),
  (16, [(.iconst (-1), 1, []), (.ireturn, 1, [0])]),
  (18, [(.aload_n 0, 1, []), (.getfield 7, 3, [11, 0, 686, 1]), (.iload_n 1, 1, []), (.iaload, 1, []), (.ifCond .lt 30, 3, [54]), (.aload_n 0, 1, []), (.getfield 7, 3, [11, 0, 686, 1]), (.iload_n 1, 1, []), (.iaload, 1, []), (.iload_n 2, 1, []), (.if_icmp .ne 17, 3, [51]), (.aload_n 0, 1, []), (.getfield 19, 3, [11, 3, 689, 1]), (.iload_n 1, 1, []), (.baload, 1, []), (.iload_n 3, 1, []), (.if_icmp .ne 7, 3, [51]), (.iconst 0, 1, []), (.goto 5, 3, [53])]),
  (51, [(.bipush (-3), 2, [])]),
  (53, [(.ireturn, 1, [0])]),
  (54, [(.aload_n 0, 1, []), (.getfield 7, 3, [11, 0, 686, 1]), (.iload_n 1, 1, []), (.iload_n 2, 1, []), (.iastore, 1, []), (.aload_n 0, 1, []), (.getfield 19, 3, [11, 3, 689, 1]), (.iload_n 1, 1, []), (.iload_n 3, 1, []), (.bastore, 1, []), (.iconst 0, 1, []), (.ireturn, 1, [0])])]
/-- QueueBrokerModel.in(II)Z -/
def bk_95 : List (Nat × List Ins) := [(0, [(.iload_n 0, 1, []), (.ifCond .lt 12, 3, [13]), (.iload_n 0, 1, []), (.iload_n 1, 1, []), (.if_icmp .ge 7, 3, [13]), (.iconst 1, 1, []), (.goto 4, 3, [14])]),
  (13, [(.iconst 0, 1, [])]),
  (14, [(.ireturn, 1, [4])])]
/-- QueueBrokerModel.queue(IIIZ)I -/
def bk_96 : List (Nat × List Ins) := [(0, [(.iload_n 1, 1, []), (.bipush 6, 2, []), (.invokestatic 119, 3, [95, 2, 1, 822]), (.ifCond .eq 24, 3, [30]), (.iload_n 2, 1, []), (.iconst 1, 1, []), (.if_icmp .lt 19, 3, [30]), (.iload_n 2, 1, []), (.bipush 12, 2, []), (.if_icmp .gt 13, 3, [30]), (.iload_n 3, 1, []), (.iconst (-1), 1, []), (.if_icmp .lt 8, 3, [30]), (.iload_n 3, 1, []), (.iconst 4, 1, []), (.if_icmp .le 5, 3, [32])]),
  (30, [(.iconst (-1), 1, []), (.ireturn, 1, [0])]),
  (32, [(.aload_n 0, 1, []), (.iload_n 1, 1, []), (.invokevirtual 184, 3, [97, 1, 1, 829, 11]), (.ifCond .eq 41, 3, [78]), (.aload_n 0, 1, []), (.getfield 13, 3, [11, 1, 687, 1]), (.iload_n 1, 1, []), (.iaload, 1, []), (.iload_n 2, 1, []), (.if_icmp .ne 28, 3, [75]), (.aload_n 0, 1, []), (.getfield 16, 3, [11, 2, 688, 1]), (.iload_n 1, 1, []), (.iaload, 1, []), (.iload_n 3, 1, []), (.if_icmp .ne 18, 3, [75]), (.aload_n 0, 1, []), (.getfield 23, 3, [11, 4, 690, 1]), (.iload_n 1, 1, []), (.baload, 1, []), (.iload 4, 2, []), (.if_icmp .ne 7, 3, [75]), (.iconst 0, 1, []), (.goto 5, 3, [77])]),
  (75, [(.bipush (-3), 2, [])]),
  (77, [(.ireturn, 1, [0])]),
  (78, [(.aload_n 0, 1, []), (.getfield 13, 3, [11, 1, 687, 1]), (.iload_n 1, 1, []), (.iload_n 2, 1, []), (.iastore, 1, []), (.aload_n 0, 1, []), (.getfield 16, 3, [11, 2, 688, 1]), (.iload_n 1, 1, []), (.iload_n 3, 1, []), (.iastore, 1, []), (.aload_n 0, 1, []), (.getfield 23, 3, [11, 4, 690, 1]), (.iload_n 1, 1, []), (.iload 4, 2, []), (.bastore, 1, []), (.iconst 0, 1, []), (.ireturn, 1, [0])])]
/-- QueueBrokerModel.isQ(I)Z -/
def bk_97 : List (Nat × List Ins) := [(0, [(.iload_n 1, 1, []), (.bipush 6, 2, []), (.invokestatic 119, 3, [95, 2, 1, 822]), (.ifCond .eq 16, 3, [22]), (.aload_n 0, 1, []), (.getfield 13, 3, [11, 1, 687, 1]), (.iload_n 1, 1, []), (.iaload, 1, []), (.ifCond .le 7, 3, [22]), (.iconst 1, 1, []), (.goto 4, 3, [23])]),
  (22, [(.iconst 0, 1, [])]),
  (23, [(.ireturn, 1, [4])])]
/-- QueueBrokerModel.bind(III)I -/
def bk_98 : List (Nat × List Ins) := [(0, [(.aload_n 0, 1, []), (.iload_n 1, 1, []), (.invokevirtual 171, 3, [99, 1, 1, 837, 11]), (.ifCond .eq 18, 3, [23]), (.aload_n 0, 1, []), (.iload_n 2, 1, []), (.invokevirtual 184, 3, [97, 1, 1, 829, 11]), (.ifCond .eq 10, 3, [23]), (.iload_n 3, 1, []), (.invokestatic 131, 3, [100, 1, 1, 841]), (.ifCond .ne 5, 3, [25])]),
  (23, [(.iconst (-1), 1, []), (.ireturn, 1, [0])]),
  (25, [(.aload_n 0, 1, []), (.iload_n 1, 1, []), (.iload_n 2, 1, []), (.iload_n 3, 1, []), (.invokevirtual 187, 3, [103, 3, 1, 850, 11]), (.ifCond .lt 6, 3, [38]), (.bipush (-3), 2, []), (.ireturn, 1, [0])]),
  (38, [(.aload_n 0, 1, []), (.getfield 135, 3, [11, 8, 694, 0]), (.bipush 24, 2, []), (.if_icmp .ne 6, 3, [50]), (.bipush (-2), 2, []), (.ireturn, 1, [0])]),
  (50, [(.aload_n 0, 1, []), (.getfield 26, 3, [11, 5, 691, 1]), (.aload_n 0, 1, []), (.getfield 135, 3, [11, 8, 694, 0]), (.iload_n 1, 1, []), (.iastore, 1, []), (.aload_n 0, 1, []), (.getfield 29, 3, [11, 6, 692, 1]), (.aload_n 0, 1, []), (.getfield 135, 3, [11, 8, 694, 0]), (.iload_n 2, 1, []), (.iastore, 1, []), (.aload_n 0, 1, []), (.getfield 32, 3, [11, 7, 693, 1]), (.aload_n 0, 1, []), (.getfield 135, 3, [11, 8, 694, 0]), (.iload_n 3, 1, []), (.iastore, 1, []), (.aload_n 0, 1, []), (.dup, 1, []), (.getfield 135, 3, [11, 8, 694, 0]), (.iconst 1, 1, []), (.iadd, 1, []), (.putfield 135, 3, [11, 8, 694, 0]), (.iconst 0, 1, []), (.ireturn, 1, [0])])]
/-- QueueBrokerModel.isE(I)Z -/
def bk_99 : List (Nat × List Ins) := [(0, [(.iload_n 1, 1, []), (.iconst 5, 1, []), (.invokestatic 119, 3, [95, 2, 1, 822]), (.ifCond .eq 16, 3, [21]), (.aload_n 0, 1, []), (.getfield 7, 3, [11, 0, 686, 1]), (.iload_n 1, 1, []), (.iaload, 1, []), (.ifCond .lt 7, 3, [21]), (.iconst 1, 1, []), (.goto 4, 3, [22])]),
  (21, [(.iconst 0, 1, [])]),
  (22, [(.ireturn, 1, [4])])]
/-- QueueBrokerModel.isPattern(I)Z -/
def bk_100 : List (Nat × List Ins) := [(0, [(.iload_n 0, 1, []), (.invokestatic 127, 3, [101, 1, 1, 844]), (.istore_n 1, 1, [])]),
  (5, [(.iload_n 1, 1, []), (.bipush 8, 2, []), (.if_icmp .ge 19, 3, [27]), (.iload_n 0, 1, []), (.iload_n 1, 1, []), (.invokestatic 123, 3, [102, 2, 1, 847]), (.ifCond .ne 5, 3, [21]), (.iconst 0, 1, []), (.ireturn, 1, [4])]),
  (21, [(.iinc 1 1, 3, []), (.goto (-19), 3, [5])]),
  (27, [(.iconst 1, 1, []), (.ireturn, 1, [4])])]
/-- QueueBrokerModel.firstDigit(I)I -/
def bk_101 : List (Nat × List Ins) := [(0, [(.iconst 0, 1, []), (.istore_n 1, 1, [])]),
  (2, [(.iload_n 1, 1, []), (.bipush 8, 2, []), (.if_icmp .ge 19, 3, [24]), (.iload_n 0, 1, []), (.iload_n 1, 1, []), (.invokestatic 123, 3, [102, 2, 1, 847]), (.ifCond .eq 5, 3, [18]), (.iload_n 1, 1, []), (.ireturn, 1, [0])]),
  (18, [(.iinc 1 1, 3, []), (.goto (-19), 3, [2])]),
  (24, [(.bipush 8, 2, []), (.ireturn, 1, [0])])]
/-- QueueBrokerModel.digit(II)I -/
def bk_102 : List (Nat × List Ins) := [(0, [(.iload_n 0, 1, []), (.bipush 28, 2, []), (.iconst 4, 1, []), (.iload_n 1, 1, []), (.imul, 1, []), (.isub, 1, []), (.iushr, 1, []), (.bipush 15, 2, []), (.iand, 1, []), (.ireturn, 1, [0])])]
/-- QueueBrokerModel.binding(III)I -/
def bk_103 : List (Nat × List Ins) := [(0, [(.iconst 0, 1, []), (.istore 4, 2, [])]),
  (3, [(.iload 4, 2, []), (.aload_n 0, 1, []), (.getfield 135, 3, [11, 8, 694, 0]), (.if_icmp .ge 45, 3, [54]), (.aload_n 0, 1, []), (.getfield 26, 3, [11, 5, 691, 1]), (.iload 4, 2, []), (.iaload, 1, []), (.iload_n 1, 1, []), (.if_icmp .ne 28, 3, [48]), (.aload_n 0, 1, []), (.getfield 29, 3, [11, 6, 692, 1]), (.iload 4, 2, []), (.iaload, 1, []), (.iload_n 2, 1, []), (.if_icmp .ne 17, 3, [48]), (.aload_n 0, 1, []), (.getfield 32, 3, [11, 7, 693, 1]), (.iload 4, 2, []), (.iaload, 1, []), (.iload_n 3, 1, []), (.if_icmp .ne 6, 3, [48]), (.iload 4, 2, []), (.ireturn, 1, [0])]),
  (48, [(.iinc 4 1, 3, []), (.goto (-48), 3, [3])]),
  (54, [(.iconst (-1), 1, []), (.ireturn, 1, [0])])]
/-- QueueBrokerModel.unbind(III)I -/
def bk_104 : List (Nat × List Ins) := [(0, [(.aload_n 0, 1, []), (.iload_n 1, 1, []), (.invokevirtual 171, 3, [99, 1, 1, 837, 11]), (.ifCond .eq 18, 3, [23]), (.aload_n 0, 1, []), (.iload_n 2, 1, []), (.invokevirtual 184, 3, [97, 1, 1, 829, 11]), (.ifCond .eq 10, 3, [23]), (.iload_n 3, 1, []), (.invokestatic 131, 3, [100, 1, 1, 841]), (.ifCond .ne 5, 3, [25])]),
  (23, [(.iconst (-1), 1, []), (.ireturn, 1, [0])]),
  (25, [(.aload_n 0, 1, []), (.iload_n 1, 1, []), (.iload_n 2, 1, []), (.iload_n 3, 1, []), (.invokevirtual 187, 3, [103, 3, 1, 850, 11]), (.istore 4, 2, []), (.iload 4, 2, []), (.ifCond .ge 6, 3, [42]), (.bipush (-3), 2, []), (.ireturn, 1, [0])]),
  (42, [(.aload_n 0, 1, []), (.iload 4, 2, []), (.invokevirtual 191, 3, [105, 1, 0, 858, 11]), (.iconst 0, 1, []), (.ireturn, 1, [0])])]
/-- QueueBrokerModel.unbindAt(I)V -/
def bk_105 : List (Nat × List Ins) := [(0, [(.aload_n 0, 1, []), (.dup, 1, []), (.getfield 135, 3, [11, 8, 694, 0]), (.iconst 1, 1, []), (.isub, 1, []), (.putfield 135, 3, [11, 8, 694, 0]), (.aload_n 0, 1, []), (.getfield 26, 3, [11, 5, 691, 1]), (.iload_n 1, 1, []), (.aload_n 0, 1, []), (.getfield 26, 3, [11, 5, 691, 1]), (.aload_n 0, 1, []), (.getfield 135, 3, [11, 8, 694, 0]), (.iaload, 1, []), (.iastore, 1, []), (.aload_n 0, 1, []), (.getfield 29, 3, [11, 6, 692, 1]), (.iload_n 1, 1, []), (.aload_n 0, 1, []), (.getfield 29, 3, [11, 6, 692, 1]), (.aload_n 0, 1, []), (.getfield 135, 3, [11, 8, 694, 0]), (.iaload, 1, []), (.iastore, 1, []), (.aload_n 0, 1, []), (.getfield 32, 3, [11, 7, 693, 1]), (.iload_n 1, 1, []), (.aload_n 0, 1, []), (.getfield 32, 3, [11, 7, 693, 1]), (.aload_n 0, 1, []), (.getfield 135, 3, [11, 8, 694, 0]), (.iaload, 1, []), (.iastore, 1, []), (.return_, 1, [])])]
/-- QueueBrokerModel.drop(I)I -/
def bk_106 : List (Nat × List Ins) := [(0, [(.aload_n 0, 1, []), (.iload_n 1, 1, []), (.invokevirtual 184, 3, [97, 1, 1, 829, 11]), (.ifCond .ne 5, 3, [10]), (.iconst (-1), 1, []), (.ireturn, 1, [0])]),
  (10, [(.iconst 0, 1, []), (.istore_n 2, 1, []), (.aload_n 0, 1, []), (.getfield 142, 3, [11, 31, 717, 0]), (.iconst 1, 1, []), (.isub, 1, []), (.istore_n 3, 1, [])]),
  (19, [(.iload_n 3, 1, []), (.ifCond .lt 30, 3, [50]), (.aload_n 0, 1, []), (.getfield 77, 3, [11, 24, 710, 1]), (.iload_n 3, 1, []), (.iaload, 1, []), (.iload_n 1, 1, []), (.if_icmp .eq 6, 3, [36]), (.goto 11, 3, [44])]),
  (36, [(.aload_n 0, 1, []), (.iload_n 3, 1, []), (.invokevirtual 148, 3, [107, 1, 0, 866, 11]), (.iinc 2 1, 3, [])]),
  (44, [(.iinc 3 (-1), 3, []), (.goto (-28), 3, [19])]),
  (50, [(.aload_n 0, 1, []), (.getfield 135, 3, [11, 8, 694, 0]), (.iconst 1, 1, []), (.isub, 1, []), (.istore_n 3, 1, [])]),
  (57, [(.iload_n 3, 1, []), (.ifCond .lt 24, 3, [82]), (.aload_n 0, 1, []), (.getfield 29, 3, [11, 6, 692, 1]), (.iload_n 3, 1, []), (.iaload, 1, []), (.iload_n 1, 1, []), (.if_icmp .ne 8, 3, [76]), (.aload_n 0, 1, []), (.iload_n 3, 1, []), (.invokevirtual 191, 3, [105, 1, 0, 858, 11])]),
  (76, [(.iinc 3 (-1), 3, []), (.goto (-22), 3, [57])]),
  (82, [(.aload_n 0, 1, []), (.getfield 194, 3, [11, 12, 698, 0]), (.iconst 1, 1, []), (.isub, 1, []), (.istore_n 3, 1, [])]),
  (89, [(.iload_n 3, 1, []), (.ifCond .lt 24, 3, [114]), (.aload_n 0, 1, []), (.getfield 35, 3, [11, 9, 695, 1]), (.iload_n 3, 1, []), (.iaload, 1, []), (.iload_n 1, 1, []), (.if_icmp .ne 8, 3, [108]), (.aload_n 0, 1, []), (.iload_n 3, 1, []), (.invokevirtual 197, 3, [108, 1, 0, 870, 11])]),
  (108, [(.iinc 3 (-1), 3, []), (.goto (-22), 3, [89])]),
  (114, [(.aload_n 0, 1, []), (.getfield 13, 3, [11, 1, 687, 1]), (.iload_n 1, 1, []), (.iconst 0, 1, []), (.iastore, 1, []), (.iload_n 2, 1, []), (.ireturn, 1, [0])])]
/-- QueueBrokerModel.remove(I)V -/
def bk_107 : List (Nat × List Ins) := [(0, [(.aload_n 0, 1, []), (.dup, 1, []), (.getfield 142, 3, [11, 31, 717, 0]), (.iconst 1, 1, []), (.isub, 1, []), (.putfield 142, 3, [11, 31, 717, 0]), (.aload_n 0, 1, []), (.getfield 68, 3, [11, 21, 707, 1]), (.iload_n 1, 1, []), (.aload_n 0, 1, []), (.getfield 68, 3, [11, 21, 707, 1]), (.aload_n 0, 1, []), (.getfield 142, 3, [11, 31, 717, 0]), (.iaload, 1, []), (.iastore, 1, []), (.aload_n 0, 1, []), (.getfield 71, 3, [11, 22, 708, 1]), (.iload_n 1, 1, []), (.aload_n 0, 1, []), (.getfield 71, 3, [11, 22, 708, 1]), (.aload_n 0, 1, []), (.getfield 142, 3, [11, 31, 717, 0]), (.iaload, 1, []), (.iastore, 1, []), (.aload_n 0, 1, []), (.getfield 74, 3, [11, 23, 709, 1]), (.iload_n 1, 1, []), (.aload_n 0, 1, []), (.getfield 74, 3, [11, 23, 709, 1]), (.aload_n 0, 1, []), (.getfield 142, 3, [11, 31, 717, 0]), (.iaload, 1, []), (.iastore, 1, []), (.aload_n 0, 1, []), (.getfield 77, 3, [11, 24, 710, 1]), (.iload_n 1, 1, []), (.aload_n 0, 1, []), (.getfield 77, 3, [11, 24, 710, 1]), (.aload_n 0, 1, []), (.getfield 142, 3, [11, 31, 717, 0]), (.iaload, 1, []), (.iastore, 1, []), (.aload_n 0, 1, []), (.getfield 80, 3, [11, 25, 711, 1]), (.iload_n 1, 1, []), (.aload_n 0, 1, []), (.getfield 80, 3, [11, 25, 711, 1]), (.aload_n 0, 1, []), (.getfield 142, 3, [11, 31, 717, 0]), (.iaload, 1, []), (.iastore, 1, []), (.aload_n 0, 1, []), (.getfield 83, 3, [11, 26, 712, 1]), (.iload_n 1, 1, []), (.aload_n 0, 1, []), (.getfield 83, 3, [11, 26, 712, 1]), (.aload_n 0, 1, []), (.getfield 142, 3, [11, 31, 717, 0]), (.iaload, 1, []), (.iastore, 1, []), (.aload_n 0, 1, []), (.getfield 86, 3, [11, 27, 713, 1]), (.iload_n 1, 1, []), (.aload_n 0, 1, []), (.getfield 86, 3, [11, 27, 713, 1]), (.aload_n 0, 1, []), (.getfield 142, 3, [11, 31, 717, 0]), (.iaload, 1, []), (.iastore, 1, []), (.aload_n 0, 1, []), (.getfield 89, 3, [11, 28, 714, 1]), (.iload_n 1, 1, []), (.aload_n 0, 1, []), (.getfield 89, 3, [11, 28, 714, 1]), (.aload_n 0, 1, []), (.getfield 142, 3, [11, 31, 717, 0]), (.iaload, 1, []), (.iastore, 1, []), (.aload_n 0, 1, []), (.getfield 92, 3, [11, 29, 715, 1]), (.iload_n 1, 1, []), (.aload_n 0, 1, []), (.getfield 92, 3, [11, 29, 715, 1]), (.aload_n 0, 1, []), (.getfield 142, 3, [11, 31, 717, 0]), (.baload, 1, []), (.bastore, 1, []), (.aload_n 0, 1, []), (.getfield 95, 3, [11, 30, 716, 1]), (.iload_n 1, 1, []), (.aload_n 0, 1, []), (.getfield 95, 3, [11, 30, 716, 1]), (.aload_n 0, 1, []), (.getfield 142, 3, [11, 31, 717, 0]), (.baload, 1, []), (.bastore, 1, []), (.return_, 1, [])])]
/-- QueueBrokerModel.removeConsumer(I)V -/
def bk_108 : List (Nat × List Ins) := [(0, [(.aload_n 0, 1, []), (.dup, 1, []), (.getfield 194, 3, [11, 12, 698, 0]), (.iconst 1, 1, []), (.isub, 1, []), (.putfield 194, 3, [11, 12, 698, 0]), (.iload_n 1, 1, []), (.istore_n 2, 1, [])]),
  (12, [(.iload_n 2, 1, []), (.aload_n 0, 1, []), (.getfield 194, 3, [11, 12, 698, 0]), (.if_icmp .ge 51, 3, [68]), (.aload_n 0, 1, []), (.getfield 35, 3, [11, 9, 695, 1]), (.iload_n 2, 1, []), (.aload_n 0, 1, []), (.getfield 35, 3, [11, 9, 695, 1]), (.iload_n 2, 1, []), (.iconst 1, 1, []), (.iadd, 1, []), (.iaload, 1, []), (.iastore, 1, []), (.aload_n 0, 1, []), (.getfield 38, 3, [11, 10, 696, 1]), (.iload_n 2, 1, []), (.aload_n 0, 1, []), (.getfield 38, 3, [11, 10, 696, 1]), (.iload_n 2, 1, []), (.iconst 1, 1, []), (.iadd, 1, []), (.iaload, 1, []), (.iastore, 1, []), (.aload_n 0, 1, []), (.getfield 41, 3, [11, 11, 697, 1]), (.iload_n 2, 1, []), (.aload_n 0, 1, []), (.getfield 41, 3, [11, 11, 697, 1]), (.iload_n 2, 1, []), (.iconst 1, 1, []), (.iadd, 1, []), (.baload, 1, []), (.bastore, 1, []), (.iinc 2 1, 3, []), (.goto (-53), 3, [12])]),
  (68, [(.return_, 1, [])])]
/-- QueueBrokerModel.publish(IIIII)I -/
def bk_109 : List (Nat × List Ins) := [(0, [(.iload_n 1, 1, []), (.iconst 4, 1, []), (.invokestatic 119, 3, [95, 2, 1, 822]), (.ifCond .eq 27, 3, [32]), (.aload_n 0, 1, []), (.iload_n 2, 1, []), (.invokevirtual 171, 3, [99, 1, 1, 837, 11]), (.ifCond .eq 19, 3, [32]), (.iload_n 3, 1, []), (.invokestatic 200, 3, [110, 1, 1, 878]), (.ifCond .eq 12, 3, [32]), (.iload 5, 2, []), (.iconst 4, 1, []), (.invokestatic 119, 3, [95, 2, 1, 822]), (.ifCond .ne 5, 3, [34])]),
  (32, [(.iconst (-1), 1, []), (.ireturn, 1, [0])]),
  (34, [(.aload_n 0, 1, []), (.getfield 53, 3, [11, 16, 702, 1]), (.iload_n 1, 1, []), (.baload, 1, []), (.ifCond .eq 15, 3, [55]), (.aload_n 0, 1, []), (.iload_n 1, 1, []), (.iload_n 2, 1, []), (.iload_n 3, 1, []), (.iload 4, 2, []), (.iload 5, 2, []), (.invokevirtual 203, 3, [111, 5, 1, 881, 11]), (.ireturn, 1, [0])]),
  (55, [(.aload_n 0, 1, []), (.iload_n 2, 1, []), (.iload_n 3, 1, []), (.invokevirtual 164, 3, [112, 2, 1, 885, 11]), (.istore 6, 2, []), (.iload 6, 2, []), (.ifCond .ne 12, 3, [77]), (.iload 5, 2, []), (.iconst 2, 1, []), (.if_icmp .lt 6, 3, [77]), (.bipush (-4), 2, []), (.ireturn, 1, [0])]),
  (77, [(.aload_n 0, 1, []), (.iload_n 2, 1, []), (.iload 4, 2, []), (.iload_n 3, 1, []), (.iconst 0, 1, []), (.iload 5, 2, []), (.iconst 2, 1, []), (.irem, 1, []), (.iconst 1, 1, []), (.if_icmp .ne 7, 3, [95]), (.iconst 1, 1, []), (.goto 4, 3, [96])]),
  (95, [(.iconst 0, 1, [])]),
  (96, [(.invokevirtual 180, 3, [114, 5, 1, 893, 11]), (.pop, 1, []), (.aload_n 0, 1, []), (.invokevirtual 207, 3, [119, 0, 0, 913, 11]), (.iload 6, 2, []), (.ireturn, 1, [0])])]
/-- QueueBrokerModel.isKey(I)Z -/
def bk_110 : List (Nat × List Ins) := [(0, [(.iconst 0, 1, []), (.istore_n 1, 1, [])]),
  (2, [(.iload_n 1, 1, []), (.bipush 8, 2, []), (.if_icmp .ge 21, 3, [26]), (.iload_n 0, 1, []), (.iload_n 1, 1, []), (.invokestatic 123, 3, [102, 2, 1, 847]), (.bipush 13, 2, []), (.if_icmp .le 5, 3, [20]), (.iconst 0, 1, []), (.ireturn, 1, [4])]),
  (20, [(.iinc 1 1, 3, []), (.goto (-21), 3, [2])]),
  (26, [(.iload_n 0, 1, []), (.invokestatic 131, 3, [100, 1, 1, 841]), (.ireturn, 1, [4])])]
/-- QueueBrokerModel.note(IIIII)I -/
def bk_111 : List (Nat × List Ins) := [(0, [(.aload_n 0, 1, []), (.getfield 50, 3, [11, 15, 701, 1]), (.iload_n 1, 1, []), (.iaload, 1, []), (.iconst 4, 1, []), (.if_icmp .ne 6, 3, [13]), (.bipush (-2), 2, []), (.ireturn, 1, [0])]),
  (13, [(.iload_n 1, 1, []), (.iconst 4, 1, []), (.imul, 1, []), (.aload_n 0, 1, []), (.getfield 50, 3, [11, 15, 701, 1]), (.iload_n 1, 1, []), (.iaload, 1, []), (.iadd, 1, []), (.istore 6, 2, []), (.aload_n 0, 1, []), (.getfield 56, 3, [11, 17, 703, 1]), (.iload 6, 2, []), (.iload_n 2, 1, []), (.iastore, 1, []), (.aload_n 0, 1, []), (.getfield 59, 3, [11, 18, 704, 1]), (.iload 6, 2, []), (.iload_n 3, 1, []), (.iastore, 1, []), (.aload_n 0, 1, []), (.getfield 62, 3, [11, 19, 705, 1]), (.iload 6, 2, []), (.iload 4, 2, []), (.iastore, 1, []), (.aload_n 0, 1, []), (.getfield 65, 3, [11, 20, 706, 1]), (.iload 6, 2, []), (.iload 5, 2, []), (.iastore, 1, []), (.aload_n 0, 1, []), (.getfield 50, 3, [11, 15, 701, 1]), (.iload_n 1, 1, []), (.dup2, 1, []), (.iaload, 1, []), (.iconst 1, 1, []), (.iadd, 1, []), (.iastore, 1, []), (.bipush 100, 2, []), (.ireturn, 1, [0])])]
/-- QueueBrokerModel.choose(II)I -/
def bk_112 : List (Nat × List Ins) := [(0, [(.iconst 0, 1, []), (.istore_n 3, 1, []), (.iconst 0, 1, []), (.istore 4, 2, [])]),
  (5, [(.iload 4, 2, []), (.bipush 6, 2, []), (.if_icmp .ge 137, 3, [146]), (.aload_n 0, 1, []), (.getfield 116, 3, [11, 42, 728, 1]), (.iload 4, 2, []), (.iconst 0, 1, []), (.bastore, 1, []), (.iconst 0, 1, []), (.istore 5, 2, [])]),
  (23, [(.iload 5, 2, []), (.aload_n 0, 1, []), (.getfield 135, 3, [11, 8, 694, 0]), (.if_icmp .ge 98, 3, [127]), (.aload_n 0, 1, []), (.getfield 26, 3, [11, 5, 691, 1]), (.iload 5, 2, []), (.iaload, 1, []), (.iload_n 1, 1, []), (.if_icmp .ne 81, 3, [121]), (.aload_n 0, 1, []), (.getfield 29, 3, [11, 6, 692, 1]), (.iload 5, 2, []), (.iaload, 1, []), (.iload 4, 2, []), (.if_icmp .eq 6, 3, [58]), (.goto 66, 3, [121])]),
  (58, [(.aload_n 0, 1, []), (.getfield 7, 3, [11, 0, 686, 1]), (.iload_n 1, 1, []), (.iaload, 1, []), (.iconst 1, 1, []), (.if_icmp .eq 48, 3, [113]), (.aload_n 0, 1, []), (.getfield 7, 3, [11, 0, 686, 1]), (.iload_n 1, 1, []), (.iaload, 1, []), (.ifCond .ne 14, 3, [88]), (.aload_n 0, 1, []), (.getfield 32, 3, [11, 7, 693, 1]), (.iload 5, 2, []), (.iaload, 1, []), (.iload_n 2, 1, []), (.if_icmp .eq 28, 3, [113])]),
  (88, [(.aload_n 0, 1, []), (.getfield 7, 3, [11, 0, 686, 1]), (.iload_n 1, 1, []), (.iaload, 1, []), (.iconst 2, 1, []), (.if_icmp .ne 26, 3, [121]), (.aload_n 0, 1, []), (.aload_n 0, 1, []), (.getfield 32, 3, [11, 7, 693, 1]), (.iload 5, 2, []), (.iaload, 1, []), (.iload_n 2, 1, []), (.invokevirtual 139, 3, [113, 2, 1, 889, 11]), (.ifCond .eq 11, 3, [121])]),
  (113, [(.aload_n 0, 1, []), (.getfield 116, 3, [11, 42, 728, 1]), (.iload 4, 2, []), (.iconst 1, 1, []), (.bastore, 1, [])]),
  (121, [(.iinc 5 1, 3, []), (.goto (-101), 3, [23])]),
  (127, [(.aload_n 0, 1, []), (.getfield 116, 3, [11, 42, 728, 1]), (.iload 4, 2, []), (.baload, 1, []), (.ifCond .eq 6, 3, [140]), (.iinc 3 1, 3, [])]),
  (140, [(.iinc 4 1, 3, []), (.goto (-138), 3, [5])]),
  (146, [(.iload_n 3, 1, []), (.ireturn, 1, [0])])]
/-- QueueBrokerModel.matches(II)Z -/
def bk_113 : List (Nat × List Ins) := [(0, [(.iload_n 1, 1, []), (.invokestatic 127, 3, [101, 1, 1, 844]), (.istore_n 3, 1, []), (.iload_n 2, 1, []), (.invokestatic 127, 3, [101, 1, 1, 844]), (.istore 4, 2, []), (.bipush 8, 2, []), (.istore 5, 2, [])]),
  (15, [(.iload 5, 2, []), (.iload_n 3, 1, []), (.if_icmp .lt 196, 3, [214]), (.bipush 8, 2, []), (.istore 6, 2, [])]),
  (25, [(.iload 6, 2, []), (.iload 4, 2, []), (.if_icmp .lt 179, 3, [208]), (.iload 5, 2, []), (.bipush 8, 2, []), (.if_icmp .ge 12, 3, [48]), (.iload_n 1, 1, []), (.iload 5, 2, []), (.invokestatic 123, 3, [102, 2, 1, 847]), (.goto 4, 3, [49])]),
  (48, [(.iconst 0, 1, [])]),
  (49, [(.istore 8, 2, []), (.iload 5, 2, []), (.bipush 8, 2, []), (.if_icmp .ne 20, 3, [75]), (.iload 6, 2, []), (.bipush 8, 2, []), (.if_icmp .ne 7, 3, [69]), (.iconst 1, 1, []), (.goto 4, 3, [70])]),
  (69, [(.iconst 0, 1, [])]),
  (70, [(.istore 7, 2, []), (.goto 115, 3, [187])]),
  (75, [(.iload 8, 2, []), (.bipush 15, 2, []), (.if_icmp .ne 56, 3, [135]), (.aload_n 0, 1, []), (.getfield 113, 3, [11, 41, 727, 1]), (.iload 5, 2, []), (.iconst 1, 1, []), (.iadd, 1, []), (.bipush 9, 2, []), (.imul, 1, []), (.iload 6, 2, []), (.iadd, 1, []), (.baload, 1, []), (.ifCond .ne 28, 3, [125]), (.iload 6, 2, []), (.bipush 8, 2, []), (.if_icmp .ge 25, 3, [129]), (.aload_n 0, 1, []), (.getfield 113, 3, [11, 41, 727, 1]), (.iload 5, 2, []), (.bipush 9, 2, []), (.imul, 1, []), (.iload 6, 2, []), (.iadd, 1, []), (.iconst 1, 1, []), (.iadd, 1, []), (.baload, 1, []), (.ifCond .eq 7, 3, [129])]),
  (125, [(.iconst 1, 1, []), (.goto 4, 3, [130])]),
  (129, [(.iconst 0, 1, [])]),
  (130, [(.istore 7, 2, []), (.goto 55, 3, [187])]),
  (135, [(.iload 6, 2, []), (.bipush 8, 2, []), (.if_icmp .ge 45, 3, [184]), (.iload 8, 2, []), (.bipush 14, 2, []), (.if_icmp .eq 14, 3, [160]), (.iload 8, 2, []), (.iload_n 2, 1, []), (.iload 6, 2, []), (.invokestatic 123, 3, [102, 2, 1, 847]), (.if_icmp .ne 27, 3, [184])]),
  (160, [(.aload_n 0, 1, []), (.getfield 113, 3, [11, 41, 727, 1]), (.iload 5, 2, []), (.iconst 1, 1, []), (.iadd, 1, []), (.bipush 9, 2, []), (.imul, 1, []), (.iload 6, 2, []), (.iadd, 1, []), (.iconst 1, 1, []), (.iadd, 1, []), (.baload, 1, []), (.ifCond .eq 7, 3, [184]), (.iconst 1, 1, []), (.goto 4, 3, [185])]),
  (184, [(.iconst 0, 1, [])]),
  (185, [(.istore 7, 2, [])]),
  (187, [(.aload_n 0, 1, []), (.getfield 113, 3, [11, 41, 727, 1]), (.iload 5, 2, []), (.bipush 9, 2, []), (.imul, 1, []), (.iload 6, 2, []), (.iadd, 1, []), (.iload 7, 2, []), (.bastore, 1, []), (.iinc 6 (-1), 3, []), (.goto (-180), 3, [25])]),
  (208, [(.iinc 5 (-1), 3, []), (.goto (-196), 3, [15])]),
  (214, [(.aload_n 0, 1, []), (.getfield 113, 3, [11, 41, 727, 1]), (.iload_n 3, 1, []), (.bipush 9, 2, []), (.imul, 1, []), (.iload 4, 2, []), (.iadd, 1, []), (.baload, 1, []), (.ireturn, 1, [4])])]
/-- QueueBrokerModel.route(IIIIZ)I -/
def bk_114 : List (Nat × List Ins) := [(0, [(.aload_n 0, 1, []), (.iload_n 1, 1, []), (.iload_n 3, 1, []), (.invokevirtual 164, 3, [112, 2, 1, 885, 11]), (.istore 6, 2, []), (.iconst 0, 1, []), (.istore 7, 2, [])]),
  (11, [(.iload 7, 2, []), (.bipush 6, 2, []), (.if_icmp .ge 31, 3, [46]), (.aload_n 0, 1, []), (.getfield 116, 3, [11, 42, 728, 1]), (.iload 7, 2, []), (.baload, 1, []), (.ifCond .eq 15, 3, [40]), (.aload_n 0, 1, []), (.iload 7, 2, []), (.iload_n 2, 1, []), (.iload_n 3, 1, []), (.iload 4, 2, []), (.iload 5, 2, []), (.invokevirtual 167, 3, [115, 5, 0, 897, 11])]),
  (40, [(.iinc 7 1, 3, []), (.goto (-32), 3, [11])]),
  (46, [(.iload 6, 2, []), (.ireturn, 1, [0])])]
/-- QueueBrokerModel.put(IIIIZ)V -/
def bk_115 : List (Nat × List Ins) := [(0, [(.aload_n 0, 1, []), (.getfield 142, 3, [11, 31, 717, 0]), (.istore 6, 2, []), (.aload_n 0, 1, []), (.dup, 1, []), (.getfield 142, 3, [11, 31, 717, 0]), (.iconst 1, 1, []), (.iadd, 1, []), (.putfield 142, 3, [11, 31, 717, 0]), (.aload_n 0, 1, []), (.dup, 1, []), (.getfield 152, 3, [11, 32, 718, 0]), (.iconst 1, 1, []), (.iadd, 1, []), (.putfield 152, 3, [11, 32, 718, 0]), (.aload_n 0, 1, []), (.getfield 68, 3, [11, 21, 707, 1]), (.iload 6, 2, []), (.iload_n 2, 1, []), (.iastore, 1, []), (.aload_n 0, 1, []), (.getfield 71, 3, [11, 22, 708, 1]), (.iload 6, 2, []), (.iload_n 3, 1, []), (.iastore, 1, []), (.aload_n 0, 1, []), (.getfield 74, 3, [11, 23, 709, 1]), (.iload 6, 2, []), (.iload 4, 2, []), (.iastore, 1, []), (.aload_n 0, 1, []), (.getfield 77, 3, [11, 24, 710, 1]), (.iload 6, 2, []), (.iload_n 1, 1, []), (.iastore, 1, []), (.aload_n 0, 1, []), (.getfield 80, 3, [11, 25, 711, 1]), (.iload 6, 2, []), (.aload_n 0, 1, []), (.getfield 152, 3, [11, 32, 718, 0]), (.iastore, 1, []), (.aload_n 0, 1, []), (.getfield 83, 3, [11, 26, 712, 1]), (.iload 6, 2, []), (.iconst (-1), 1, []), (.iastore, 1, []), (.aload_n 0, 1, []), (.getfield 86, 3, [11, 27, 713, 1]), (.iload 6, 2, []), (.iconst 0, 1, []), (.iastore, 1, []), (.aload_n 0, 1, []), (.getfield 89, 3, [11, 28, 714, 1]), (.iload 6, 2, []), (.iconst 0, 1, []), (.iastore, 1, []), (.aload_n 0, 1, []), (.getfield 92, 3, [11, 29, 715, 1]), (.iload 6, 2, []), (.iload 5, 2, []), (.bastore, 1, []), (.aload_n 0, 1, []), (.getfield 95, 3, [11, 30, 716, 1]), (.iload 6, 2, []), (.iconst 0, 1, []), (.bastore, 1, []), (.iconst 0, 1, []), (.istore 7, 2, [])]),
  (114, [(.iload 7, 2, []), (.sipush 200, 3, []), (.if_icmp .ge 37, 3, [156]), (.aload_n 0, 1, []), (.iload_n 1, 1, []), (.invokevirtual 155, 3, [116, 1, 1, 901, 11]), (.aload_n 0, 1, []), (.getfield 13, 3, [11, 1, 687, 1]), (.iload_n 1, 1, []), (.iaload, 1, []), (.if_icmp .le 23, 3, [156]), (.aload_n 0, 1, []), (.iload_n 1, 1, []), (.iconst 0, 1, []), (.invokevirtual 158, 3, [117, 2, 1, 905, 11]), (.istore 8, 2, []), (.aload_n 0, 1, []), (.iload 8, 2, []), (.invokevirtual 161, 3, [118, 1, 0, 909, 11]), (.iinc 7 1, 3, []), (.goto (-39), 3, [114])]),
  (156, [(.return_, 1, [])])]
/-- QueueBrokerModel.readyCount(I)I -/
def bk_116 : List (Nat × List Ins) := [(0, [(.iconst 0, 1, []), (.istore_n 2, 1, []), (.iconst 0, 1, []), (.istore_n 3, 1, [])]),
  (4, [(.iload_n 3, 1, []), (.aload_n 0, 1, []), (.getfield 142, 3, [11, 31, 717, 0]), (.if_icmp .ge 31, 3, [40]), (.aload_n 0, 1, []), (.getfield 77, 3, [11, 24, 710, 1]), (.iload_n 3, 1, []), (.iaload, 1, []), (.iload_n 1, 1, []), (.if_icmp .ne 15, 3, [34]), (.aload_n 0, 1, []), (.getfield 83, 3, [11, 26, 712, 1]), (.iload_n 3, 1, []), (.iaload, 1, []), (.ifCond .ge 6, 3, [34]), (.iinc 2 1, 3, [])]),
  (34, [(.iinc 3 1, 3, []), (.goto (-33), 3, [4])]),
  (40, [(.iload_n 2, 1, []), (.ireturn, 1, [0])])]
/-- QueueBrokerModel.readyAt(II)I -/
def bk_117 : List (Nat × List Ins) := [(0, [(.iconst 0, 1, []), (.istore_n 3, 1, [])]),
  (2, [(.iload_n 3, 1, []), (.aload_n 0, 1, []), (.getfield 142, 3, [11, 31, 717, 0]), (.if_icmp .ge 100, 3, [107]), (.aload_n 0, 1, []), (.getfield 77, 3, [11, 24, 710, 1]), (.iload_n 3, 1, []), (.iaload, 1, []), (.iload_n 1, 1, []), (.if_icmp .ne 84, 3, [101]), (.aload_n 0, 1, []), (.getfield 83, 3, [11, 26, 712, 1]), (.iload_n 3, 1, []), (.iaload, 1, []), (.ifCond .lt 6, 3, [32]), (.goto 72, 3, [101])]),
  (32, [(.iconst 0, 1, []), (.istore 4, 2, []), (.iconst 0, 1, []), (.istore 5, 2, [])]),
  (38, [(.iload 5, 2, []), (.aload_n 0, 1, []), (.getfield 142, 3, [11, 31, 717, 0]), (.if_icmp .ge 49, 3, [93]), (.aload_n 0, 1, []), (.getfield 77, 3, [11, 24, 710, 1]), (.iload 5, 2, []), (.iaload, 1, []), (.iload_n 1, 1, []), (.if_icmp .ne 32, 3, [87]), (.aload_n 0, 1, []), (.getfield 83, 3, [11, 26, 712, 1]), (.iload 5, 2, []), (.iaload, 1, []), (.ifCond .ge 22, 3, [87]), (.aload_n 0, 1, []), (.getfield 80, 3, [11, 25, 711, 1]), (.iload 5, 2, []), (.iaload, 1, []), (.aload_n 0, 1, []), (.getfield 80, 3, [11, 25, 711, 1]), (.iload_n 3, 1, []), (.iaload, 1, []), (.if_icmp .ge 6, 3, [87]), (.iinc 4 1, 3, [])]),
  (87, [(.iinc 5 1, 3, []), (.goto (-52), 3, [38])]),
  (93, [(.iload 4, 2, []), (.iload_n 2, 1, []), (.if_icmp .ne 5, 3, [101]), (.iload_n 3, 1, []), (.ireturn, 1, [0])]),
  (101, [(.iinc 3 1, 3, []), (.goto (-102), 3, [2])]),
  (107, [(.iconst (-1), 1, []), (.ireturn, 1, [0])])]
/-- QueueBrokerModel.letter(I)V -/
def bk_118 : List (Nat × List Ins) := [(0, [(.aload_n 0, 1, []), (.getfield 98, 3, [11, 33, 719, 1]), (.aload_n 0, 1, []), (.getfield 145, 3, [11, 38, 724, 0]), (.aload_n 0, 1, []), (.getfield 68, 3, [11, 21, 707, 1]), (.iload_n 1, 1, []), (.iaload, 1, []), (.iastore, 1, []), (.aload_n 0, 1, []), (.getfield 101, 3, [11, 34, 720, 1]), (.aload_n 0, 1, []), (.getfield 145, 3, [11, 38, 724, 0]), (.aload_n 0, 1, []), (.getfield 71, 3, [11, 22, 708, 1]), (.iload_n 1, 1, []), (.iaload, 1, []), (.iastore, 1, []), (.aload_n 0, 1, []), (.getfield 104, 3, [11, 35, 721, 1]), (.aload_n 0, 1, []), (.getfield 145, 3, [11, 38, 724, 0]), (.aload_n 0, 1, []), (.getfield 74, 3, [11, 23, 709, 1]), (.iload_n 1, 1, []), (.iaload, 1, []), (.iastore, 1, []), (.aload_n 0, 1, []), (.getfield 107, 3, [11, 36, 722, 1]), (.aload_n 0, 1, []), (.getfield 145, 3, [11, 38, 724, 0]), (.aload_n 0, 1, []), (.getfield 16, 3, [11, 2, 688, 1]), (.aload_n 0, 1, []), (.getfield 77, 3, [11, 24, 710, 1]), (.iload_n 1, 1, []), (.iaload, 1, []), (.iaload, 1, []), (.iastore, 1, []), (.aload_n 0, 1, []), (.getfield 110, 3, [11, 37, 723, 1]), (.aload_n 0, 1, []), (.getfield 145, 3, [11, 38, 724, 0]), (.aload_n 0, 1, []), (.getfield 92, 3, [11, 29, 715, 1]), (.iload_n 1, 1, []), (.baload, 1, []), (.bastore, 1, []), (.aload_n 0, 1, []), (.dup, 1, []), (.getfield 145, 3, [11, 38, 724, 0]), (.iconst 1, 1, []), (.iadd, 1, []), (.putfield 145, 3, [11, 38, 724, 0]), (.aload_n 0, 1, []), (.iload_n 1, 1, []), (.invokevirtual 148, 3, [107, 1, 0, 866, 11]), (.return_, 1, [])])]
/-- QueueBrokerModel.routeLetters()V -/
def bk_119 : List (Nat × List Ins) := [(0, [(.iconst 0, 1, []), (.istore_n 1, 1, []), (.iconst 0, 1, []), (.istore_n 2, 1, [])]),
  (4, [(.iload_n 2, 1, []), (.aload_n 0, 1, []), (.getfield 145, 3, [11, 38, 724, 0]), (.if_icmp .ge 100, 3, [109]), (.aload_n 0, 1, []), (.aload_n 0, 1, []), (.getfield 107, 3, [11, 36, 722, 1]), (.iload_n 2, 1, []), (.iaload, 1, []), (.invokevirtual 171, 3, [99, 1, 1, 837, 11]), (.ifCond .eq 18, 3, [40]), (.aload_n 0, 1, []), (.getfield 104, 3, [11, 35, 721, 1]), (.iload_n 2, 1, []), (.iaload, 1, []), (.iconst 3, 1, []), (.if_icmp .eq 8, 3, [40]), (.iload_n 1, 1, []), (.iconst 3, 1, []), (.if_icmp .ne 16, 3, [53])]),
  (40, [(.aload_n 0, 1, []), (.dup, 1, []), (.getfield 174, 3, [11, 40, 726, 0]), (.iconst 1, 1, []), (.iadd, 1, []), (.putfield 174, 3, [11, 40, 726, 0]), (.goto 53, 3, [103])]),
  (53, [(.iinc 1 1, 3, []), (.aload_n 0, 1, []), (.dup, 1, []), (.getfield 177, 3, [11, 39, 725, 0]), (.iconst 1, 1, []), (.iadd, 1, []), (.putfield 177, 3, [11, 39, 725, 0]), (.aload_n 0, 1, []), (.aload_n 0, 1, []), (.getfield 107, 3, [11, 36, 722, 1]), (.iload_n 2, 1, []), (.iaload, 1, []), (.aload_n 0, 1, []), (.getfield 98, 3, [11, 33, 719, 1]), (.iload_n 2, 1, []), (.iaload, 1, []), (.aload_n 0, 1, []), (.getfield 101, 3, [11, 34, 720, 1]), (.iload_n 2, 1, []), (.iaload, 1, []), (.aload_n 0, 1, []), (.getfield 104, 3, [11, 35, 721, 1]), (.iload_n 2, 1, []), (.iaload, 1, []), (.iconst 1, 1, []), (.iadd, 1, []), (.aload_n 0, 1, []), (.getfield 110, 3, [11, 37, 723, 1]), (.iload_n 2, 1, []), (.baload, 1, []), (.invokevirtual 180, 3, [114, 5, 1, 893, 11]), (.pop, 1, [])]),
  (103, [(.iinc 2 1, 3, []), (.goto (-102), 3, [4])]),
  (109, [(.aload_n 0, 1, []), (.iconst 0, 1, []), (.putfield 145, 3, [11, 38, 724, 0]), (.return_, 1, [])])]
/-- QueueBrokerModel.consume(IIZ)I -/
def bk_120 : List (Nat × List Ins) := [(0, [(.iload_n 1, 1, []), (.iconst 4, 1, []), (.invokestatic 119, 3, [95, 2, 1, 822]), (.ifCond .eq 11, 3, [16]), (.aload_n 0, 1, []), (.iload_n 2, 1, []), (.invokevirtual 184, 3, [97, 1, 1, 829, 11]), (.ifCond .ne 5, 3, [18])]),
  (16, [(.iconst (-1), 1, []), (.ireturn, 1, [0])]),
  (18, [(.aload_n 0, 1, []), (.iload_n 1, 1, []), (.iload_n 2, 1, []), (.invokevirtual 210, 3, [121, 2, 1, 921, 11]), (.ifCond .lt 6, 3, [30]), (.bipush (-3), 2, []), (.ireturn, 1, [0])]),
  (30, [(.aload_n 0, 1, []), (.iload_n 2, 1, []), (.iload_n 1, 1, []), (.iload_n 3, 1, []), (.invokevirtual 213, 3, [122, 3, 0, 925, 11]), (.iconst 0, 1, []), (.ireturn, 1, [0])])]
/-- QueueBrokerModel.consumer(II)I -/
def bk_121 : List (Nat × List Ins) := [(0, [(.iconst 0, 1, []), (.istore_n 3, 1, [])]),
  (2, [(.iload_n 3, 1, []), (.aload_n 0, 1, []), (.getfield 194, 3, [11, 12, 698, 0]), (.if_icmp .ge 31, 3, [38]), (.aload_n 0, 1, []), (.getfield 38, 3, [11, 10, 696, 1]), (.iload_n 3, 1, []), (.iaload, 1, []), (.iload_n 1, 1, []), (.if_icmp .ne 15, 3, [32]), (.aload_n 0, 1, []), (.getfield 35, 3, [11, 9, 695, 1]), (.iload_n 3, 1, []), (.iaload, 1, []), (.iload_n 2, 1, []), (.if_icmp .ne 5, 3, [32]), (.iload_n 3, 1, []), (.ireturn, 1, [0])]),
  (32, [(.iinc 3 1, 3, []), (.goto (-33), 3, [2])]),
  (38, [(.iconst (-1), 1, []), (.ireturn, 1, [0])])]
/-- QueueBrokerModel.addConsumer(IIZ)V -/
def bk_122 : List (Nat × List Ins) := [(0, [(.aload_n 0, 1, []), (.getfield 35, 3, [11, 9, 695, 1]), (.aload_n 0, 1, []), (.getfield 194, 3, [11, 12, 698, 0]), (.iload_n 1, 1, []), (.iastore, 1, []), (.aload_n 0, 1, []), (.getfield 38, 3, [11, 10, 696, 1]), (.aload_n 0, 1, []), (.getfield 194, 3, [11, 12, 698, 0]), (.iload_n 2, 1, []), (.iastore, 1, []), (.aload_n 0, 1, []), (.getfield 41, 3, [11, 11, 697, 1]), (.aload_n 0, 1, []), (.getfield 194, 3, [11, 12, 698, 0]), (.iload_n 3, 1, []), (.bastore, 1, []), (.aload_n 0, 1, []), (.dup, 1, []), (.getfield 194, 3, [11, 12, 698, 0]), (.iconst 1, 1, []), (.iadd, 1, []), (.putfield 194, 3, [11, 12, 698, 0]), (.return_, 1, [])])]
/-- QueueBrokerModel.cancel(II)I -/
def bk_123 : List (Nat × List Ins) := [(0, [(.iload_n 1, 1, []), (.iconst 4, 1, []), (.invokestatic 119, 3, [95, 2, 1, 822]), (.ifCond .eq 11, 3, [16]), (.aload_n 0, 1, []), (.iload_n 2, 1, []), (.invokevirtual 184, 3, [97, 1, 1, 829, 11]), (.ifCond .ne 5, 3, [18])]),
  (16, [(.iconst (-1), 1, []), (.ireturn, 1, [0])]),
  (18, [(.aload_n 0, 1, []), (.iload_n 1, 1, []), (.iload_n 2, 1, []), (.invokevirtual 210, 3, [121, 2, 1, 921, 11]), (.istore_n 3, 1, []), (.iload_n 3, 1, []), (.ifCond .ge 6, 3, [32]), (.bipush (-3), 2, []), (.ireturn, 1, [0])]),
  (32, [(.aload_n 0, 1, []), (.iload_n 3, 1, []), (.invokevirtual 197, 3, [108, 1, 0, 870, 11]), (.iconst 0, 1, []), (.ireturn, 1, [0])])]
/-- QueueBrokerModel.deliver(I)I -/
def bk_124 : List (Nat × List Ins) := [(0, [(.aload_n 0, 1, []), (.iload_n 1, 1, []), (.invokevirtual 184, 3, [97, 1, 1, 829, 11]), (.ifCond .ne 5, 3, [10]), (.iconst (-1), 1, []), (.ireturn, 1, [0])]),
  (10, [(.aload_n 0, 1, []), (.iload_n 1, 1, []), (.iconst 0, 1, []), (.invokevirtual 158, 3, [117, 2, 1, 905, 11]), (.istore_n 2, 1, []), (.iload_n 2, 1, []), (.ifCond .ge 6, 3, [24]), (.bipush (-5), 2, []), (.ireturn, 1, [0])]),
  (24, [(.iconst 0, 1, []), (.istore_n 3, 1, [])]),
  (26, [(.iload_n 3, 1, []), (.aload_n 0, 1, []), (.getfield 194, 3, [11, 12, 698, 0]), (.if_icmp .ge 121, 3, [152]), (.aload_n 0, 1, []), (.getfield 38, 3, [11, 10, 696, 1]), (.iload_n 3, 1, []), (.iaload, 1, []), (.istore 4, 2, []), (.aload_n 0, 1, []), (.getfield 41, 3, [11, 11, 697, 1]), (.iload_n 3, 1, []), (.baload, 1, []), (.istore 5, 2, []), (.aload_n 0, 1, []), (.getfield 35, 3, [11, 9, 695, 1]), (.iload_n 3, 1, []), (.iaload, 1, []), (.iload_n 1, 1, []), (.if_icmp .ne 89, 3, [146]), (.iload 5, 2, []), (.ifCond .ne 22, 3, [84]), (.aload_n 0, 1, []), (.iload 4, 2, []), (.invokevirtual 217, 3, [125, 1, 1, 937, 11]), (.aload_n 0, 1, []), (.getfield 44, 3, [11, 13, 699, 1]), (.iload 4, 2, []), (.iaload, 1, []), (.if_icmp .lt 6, 3, [84]), (.goto 65, 3, [146])]),
  (84, [(.aload_n 0, 1, []), (.iload_n 3, 1, []), (.invokevirtual 197, 3, [108, 1, 0, 870, 11]), (.aload_n 0, 1, []), (.iload_n 1, 1, []), (.iload 4, 2, []), (.iload 5, 2, []), (.invokevirtual 213, 3, [122, 3, 0, 925, 11]), (.iload 5, 2, []), (.ifCond .eq 11, 3, [111]), (.aload_n 0, 1, []), (.iload_n 2, 1, []), (.invokevirtual 148, 3, [107, 1, 0, 866, 11]), (.iload 4, 2, []), (.ireturn, 1, [0])]),
  (111, [(.aload_n 0, 1, []), (.getfield 47, 3, [11, 14, 700, 1]), (.iload 4, 2, []), (.dup2, 1, []), (.iaload, 1, []), (.iconst 1, 1, []), (.iadd, 1, []), (.iastore, 1, []), (.aload_n 0, 1, []), (.getfield 83, 3, [11, 26, 712, 1]), (.iload_n 2, 1, []), (.iload 4, 2, []), (.iastore, 1, []), (.aload_n 0, 1, []), (.getfield 86, 3, [11, 27, 713, 1]), (.iload_n 2, 1, []), (.aload_n 0, 1, []), (.getfield 47, 3, [11, 14, 700, 1]), (.iload 4, 2, []), (.iaload, 1, []), (.iastore, 1, []), (.iload 4, 2, []), (.ireturn, 1, [0])]),
  (146, [(.iinc 3 1, 3, []), (.goto (-123), 3, [26])]),
  (152, [(.bipush (-6), 2, []), (.ireturn, 1, [0])])]
/-- QueueBrokerModel.heldCount(I)I -/
def bk_125 : List (Nat × List Ins) := [(0, [(.iconst 0, 1, []), (.istore_n 2, 1, []), (.iconst 0, 1, []), (.istore_n 3, 1, [])]),
  (4, [(.iload_n 3, 1, []), (.aload_n 0, 1, []), (.getfield 142, 3, [11, 31, 717, 0]), (.if_icmp .ge 22, 3, [31]), (.aload_n 0, 1, []), (.getfield 83, 3, [11, 26, 712, 1]), (.iload_n 3, 1, []), (.iaload, 1, []), (.iload_n 1, 1, []), (.if_icmp .ne 6, 3, [25]), (.iinc 2 1, 3, [])]),
  (25, [(.iinc 3 1, 3, []), (.goto (-24), 3, [4])]),
  (31, [(.iload_n 2, 1, []), (.ireturn, 1, [0])])]
/-- QueueBrokerModel.settle(IIZI)I -/
def bk_126 : List (Nat × List Ins) := [(0, [(.iload_n 1, 1, []), (.iconst 4, 1, []), (.invokestatic 119, 3, [95, 2, 1, 822]), (.ifCond .eq 24, 3, [29]), (.iload_n 2, 1, []), (.ifCond .lt 20, 3, [29]), (.iload_n 2, 1, []), (.ifCond .ne 7, 3, [20]), (.iload_n 3, 1, []), (.ifCond .eq 12, 3, [29])]),
  (20, [(.iload 4, 2, []), (.iconst 3, 1, []), (.invokestatic 119, 3, [95, 2, 1, 822]), (.ifCond .ne 5, 3, [31])]),
  (29, [(.iconst (-1), 1, []), (.ireturn, 1, [0])]),
  (31, [(.iconst 0, 1, []), (.istore 5, 2, []), (.iconst 0, 1, []), (.istore 6, 2, [])]),
  (37, [(.iload 6, 2, []), (.aload_n 0, 1, []), (.getfield 142, 3, [11, 31, 717, 0]), (.if_icmp .ge 24, 3, [67]), (.aload_n 0, 1, []), (.iload 6, 2, []), (.iload_n 1, 1, []), (.iload_n 2, 1, []), (.iload_n 3, 1, []), (.invokevirtual 220, 3, [127, 4, 1, 945, 11]), (.ifCond .eq 6, 3, [61]), (.iinc 5 1, 3, [])]),
  (61, [(.iinc 6 1, 3, []), (.goto (-27), 3, [37])]),
  (67, [(.iload 5, 2, []), (.ifCond .ne 5, 3, [74]), (.iconst (-1), 1, []), (.ireturn, 1, [0])]),
  (74, [(.aload_n 0, 1, []), (.getfield 53, 3, [11, 16, 702, 1]), (.iload_n 1, 1, []), (.baload, 1, []), (.ifCond .ne 22, 3, [102]), (.aload_n 0, 1, []), (.iload_n 1, 1, []), (.iconst 0, 1, []), (.iload_n 2, 1, []), (.iload_n 3, 1, []), (.iload 4, 2, []), (.invokevirtual 228, 3, [128, 5, 1, 949, 11]), (.istore 5, 2, []), (.aload_n 0, 1, []), (.invokevirtual 207, 3, [119, 0, 0, 913, 11]), (.iload 5, 2, []), (.ireturn, 1, [0])]),
  (102, [(.aload_n 0, 1, []), (.iload_n 1, 1, []), (.iconst (-1), 1, []), (.iconst 0, 1, []), (.iconst 0, 1, []), (.iload 4, 2, []), (.invokevirtual 203, 3, [111, 5, 1, 881, 11]), (.istore 6, 2, []), (.iconst 0, 1, []), (.istore 7, 2, [])]),
  (117, [(.iload 6, 2, []), (.bipush 100, 2, []), (.if_icmp .ne 43, 3, [164]), (.iload 7, 2, []), (.aload_n 0, 1, []), (.getfield 142, 3, [11, 31, 717, 0]), (.if_icmp .ge 34, 3, [164]), (.aload_n 0, 1, []), (.iload 7, 2, []), (.iload_n 1, 1, []), (.iload_n 2, 1, []), (.iload_n 3, 1, []), (.invokevirtual 220, 3, [127, 4, 1, 945, 11]), (.ifCond .eq 16, 3, [158]), (.aload_n 0, 1, []), (.getfield 89, 3, [11, 28, 714, 1]), (.iload 7, 2, []), (.aload_n 0, 1, []), (.getfield 50, 3, [11, 15, 701, 1]), (.iload_n 1, 1, []), (.iaload, 1, []), (.iastore, 1, [])]),
  (158, [(.iinc 7 1, 3, []), (.goto (-44), 3, [117])]),
  (164, [(.iload 6, 2, []), (.ireturn, 1, [0])])]
/-- QueueBrokerModel.meant(IIIZ)Z -/
def bk_127 : List (Nat × List Ins) := [(0, [(.aload_n 0, 1, []), (.getfield 83, 3, [11, 26, 712, 1]), (.iload_n 1, 1, []), (.iaload, 1, []), (.iload_n 2, 1, []), (.if_icmp .ne 12, 3, [19]), (.aload_n 0, 1, []), (.getfield 89, 3, [11, 28, 714, 1]), (.iload_n 1, 1, []), (.iaload, 1, []), (.ifCond .eq 5, 3, [21])]),
  (19, [(.iconst 0, 1, []), (.ireturn, 1, [4])]),
  (21, [(.iload 4, 2, []), (.ifCond .eq 25, 3, [48]), (.iload_n 3, 1, []), (.ifCond .eq 13, 3, [40]), (.aload_n 0, 1, []), (.getfield 86, 3, [11, 27, 713, 1]), (.iload_n 1, 1, []), (.iaload, 1, []), (.iload_n 3, 1, []), (.if_icmp .gt 7, 3, [44])]),
  (40, [(.iconst 1, 1, []), (.goto 22, 3, [63])]),
  (44, [(.iconst 0, 1, []), (.goto 18, 3, [63])]),
  (48, [(.aload_n 0, 1, []), (.getfield 86, 3, [11, 27, 713, 1]), (.iload_n 1, 1, []), (.iaload, 1, []), (.iload_n 3, 1, []), (.if_icmp .ne 7, 3, [62]), (.iconst 1, 1, []), (.goto 4, 3, [63])]),
  (62, [(.iconst 0, 1, [])]),
  (63, [(.ireturn, 1, [4])])]
/-- QueueBrokerModel.settleAll(IIIZI)I -/
def bk_128 : List (Nat × List Ins) := [(0, [(.iconst 0, 1, []), (.istore 6, 2, []), (.iconst 0, 1, []), (.istore 7, 2, []), (.iconst 0, 1, []), (.istore 8, 2, [])]),
  (9, [(.iload 8, 2, []), (.bipush 60, 2, []), (.if_icmp .ge 147, 3, [160]), (.iconst (-1), 1, []), (.istore 9, 2, []), (.iconst 0, 1, []), (.istore 10, 2, [])]),
  (22, [(.iload 10, 2, []), (.aload_n 0, 1, []), (.getfield 142, 3, [11, 31, 717, 0]), (.if_icmp .ge 98, 3, [126]), (.iload_n 2, 1, []), (.ifCond .le 33, 3, [65]), (.aload_n 0, 1, []), (.getfield 83, 3, [11, 26, 712, 1]), (.iload 10, 2, []), (.iaload, 1, []), (.iload_n 1, 1, []), (.if_icmp .ne 18, 3, [61]), (.aload_n 0, 1, []), (.getfield 89, 3, [11, 28, 714, 1]), (.iload 10, 2, []), (.iaload, 1, []), (.iload_n 2, 1, []), (.if_icmp .ne 7, 3, [61]), (.iconst 1, 1, []), (.goto 17, 3, [75])]),
  (61, [(.iconst 0, 1, []), (.goto 13, 3, [75])]),
  (65, [(.aload_n 0, 1, []), (.iload 10, 2, []), (.iload_n 1, 1, []), (.iload_n 3, 1, []), (.iload 4, 2, []), (.invokevirtual 220, 3, [127, 4, 1, 945, 11])]),
  (75, [(.istore 11, 2, []), (.iload 11, 2, []), (.ifCond .eq 41, 3, [120]), (.aload_n 0, 1, []), (.getfield 86, 3, [11, 27, 713, 1]), (.iload 10, 2, []), (.iaload, 1, []), (.iload 7, 2, []), (.if_icmp .le 29, 3, [120]), (.iload 9, 2, []), (.ifCond .lt 20, 3, [116]), (.aload_n 0, 1, []), (.getfield 86, 3, [11, 27, 713, 1]), (.iload 10, 2, []), (.iaload, 1, []), (.aload_n 0, 1, []), (.getfield 86, 3, [11, 27, 713, 1]), (.iload 9, 2, []), (.iaload, 1, []), (.if_icmp .ge 7, 3, [120])]),
  (116, [(.iload 10, 2, []), (.istore 9, 2, [])]),
  (120, [(.iinc 10 1, 3, []), (.goto (-101), 3, [22])]),
  (126, [(.iload 9, 2, []), (.ifCond .ge 6, 3, [134]), (.iload 6, 2, []), (.ireturn, 1, [0])]),
  (134, [(.aload_n 0, 1, []), (.getfield 86, 3, [11, 27, 713, 1]), (.iload 9, 2, []), (.iaload, 1, []), (.istore 7, 2, []), (.aload_n 0, 1, []), (.iload 9, 2, []), (.iload 5, 2, []), (.invokevirtual 224, 3, [129, 2, 0, 953, 11]), (.iinc 6 1, 3, []), (.iinc 8 1, 3, []), (.goto (-148), 3, [9])]),
  (160, [(.iload 6, 2, []), (.ireturn, 1, [0])])]
/-- QueueBrokerModel.settleOne(II)V -/
def bk_129 : List (Nat × List Ins) := [(0, [(.iload_n 2, 1, []), (.ifCond .ne 8, 3, [9]), (.aload_n 0, 1, []), (.iload_n 1, 1, []), (.invokevirtual 148, 3, [107, 1, 0, 866, 11])]),
  (9, [(.iload_n 2, 1, []), (.iconst 2, 1, []), (.if_icmp .ne 8, 3, [19]), (.aload_n 0, 1, []), (.iload_n 1, 1, []), (.invokevirtual 161, 3, [118, 1, 0, 909, 11])]),
  (19, [(.iload_n 2, 1, []), (.iconst 1, 1, []), (.if_icmp .eq 4, 3, [25]), (.return_, 1, [])]),
  (25, [(.aload_n 0, 1, []), (.getfield 83, 3, [11, 26, 712, 1]), (.iload_n 1, 1, []), (.iconst (-1), 1, []), (.iastore, 1, []), (.aload_n 0, 1, []), (.getfield 89, 3, [11, 28, 714, 1]), (.iload_n 1, 1, []), (.iconst 0, 1, []), (.iastore, 1, []), (.aload_n 0, 1, []), (.getfield 95, 3, [11, 30, 716, 1]), (.iload_n 1, 1, []), (.iconst 1, 1, []), (.bastore, 1, []), (.return_, 1, [])])]
/-- QueueBrokerModel.prefetch(II)I -/
def bk_130 : List (Nat × List Ins) := [(0, [(.iload_n 1, 1, []), (.iconst 4, 1, []), (.invokestatic 119, 3, [95, 2, 1, 822]), (.ifCond .eq 14, 3, [19]), (.iload_n 2, 1, []), (.iconst 1, 1, []), (.if_icmp .lt 9, 3, [19]), (.iload_n 2, 1, []), (.bipush 12, 2, []), (.if_icmp .le 5, 3, [21])]),
  (19, [(.iconst (-1), 1, []), (.ireturn, 1, [0])]),
  (21, [(.aload_n 0, 1, []), (.getfield 44, 3, [11, 13, 699, 1]), (.iload_n 1, 1, []), (.iload_n 2, 1, []), (.iastore, 1, []), (.iconst 0, 1, []), (.ireturn, 1, [0])])]
/-- QueueBrokerModel.begin(I)I -/
def bk_131 : List (Nat × List Ins) := [(0, [(.iload_n 1, 1, []), (.iconst 4, 1, []), (.invokestatic 119, 3, [95, 2, 1, 822]), (.ifCond .ne 5, 3, [10]), (.iconst (-1), 1, []), (.ireturn, 1, [0])]),
  (10, [(.aload_n 0, 1, []), (.getfield 53, 3, [11, 16, 702, 1]), (.iload_n 1, 1, []), (.baload, 1, []), (.ifCond .eq 6, 3, [22]), (.bipush (-3), 2, []), (.ireturn, 1, [0])]),
  (22, [(.aload_n 0, 1, []), (.getfield 53, 3, [11, 16, 702, 1]), (.iload_n 1, 1, []), (.iconst 1, 1, []), (.bastore, 1, []), (.iconst 0, 1, []), (.ireturn, 1, [0])])]
/-- QueueBrokerModel.commit(I)I -/
def bk_132 : List (Nat × List Ins) := [(0, [(.iload_n 1, 1, []), (.iconst 4, 1, []), (.invokestatic 119, 3, [95, 2, 1, 822]), (.ifCond .ne 5, 3, [10]), (.iconst (-1), 1, []), (.ireturn, 1, [0])]),
  (10, [(.aload_n 0, 1, []), (.getfield 53, 3, [11, 16, 702, 1]), (.iload_n 1, 1, []), (.baload, 1, []), (.ifCond .ne 6, 3, [22]), (.bipush (-3), 2, []), (.ireturn, 1, [0])]),
  (22, [(.iconst 0, 1, []), (.istore_n 2, 1, [])]),
  (24, [(.iload_n 2, 1, []), (.aload_n 0, 1, []), (.getfield 50, 3, [11, 15, 701, 1]), (.iload_n 1, 1, []), (.iaload, 1, []), (.if_icmp .ge 98, 3, [129]), (.iload_n 1, 1, []), (.iconst 4, 1, []), (.imul, 1, []), (.iload_n 2, 1, []), (.iadd, 1, []), (.istore_n 3, 1, []), (.aload_n 0, 1, []), (.getfield 56, 3, [11, 17, 703, 1]), (.iload_n 3, 1, []), (.iaload, 1, []), (.ifCond .ge 23, 3, [69]), (.aload_n 0, 1, []), (.iload_n 1, 1, []), (.iload_n 2, 1, []), (.iconst 1, 1, []), (.iadd, 1, []), (.iconst 0, 1, []), (.iconst 1, 1, []), (.aload_n 0, 1, []), (.getfield 65, 3, [11, 20, 706, 1]), (.iload_n 3, 1, []), (.iaload, 1, []), (.invokevirtual 228, 3, [128, 5, 1, 949, 11]), (.pop, 1, []), (.goto 57, 3, [123])]),
  (69, [(.aload_n 0, 1, []), (.aload_n 0, 1, []), (.getfield 56, 3, [11, 17, 703, 1]), (.iload_n 3, 1, []), (.iaload, 1, []), (.invokevirtual 171, 3, [99, 1, 1, 837, 11]), (.ifCond .eq 44, 3, [123]), (.aload_n 0, 1, []), (.aload_n 0, 1, []), (.getfield 56, 3, [11, 17, 703, 1]), (.iload_n 3, 1, []), (.iaload, 1, []), (.aload_n 0, 1, []), (.getfield 62, 3, [11, 19, 705, 1]), (.iload_n 3, 1, []), (.iaload, 1, []), (.aload_n 0, 1, []), (.getfield 59, 3, [11, 18, 704, 1]), (.iload_n 3, 1, []), (.iaload, 1, []), (.iconst 0, 1, []), (.aload_n 0, 1, []), (.getfield 65, 3, [11, 20, 706, 1]), (.iload_n 3, 1, []), (.iaload, 1, []), (.iconst 2, 1, []), (.irem, 1, []), (.iconst 1, 1, []), (.if_icmp .ne 7, 3, [118]), (.iconst 1, 1, []), (.goto 4, 3, [119])]),
  (118, [(.iconst 0, 1, [])]),
  (119, [(.invokevirtual 180, 3, [114, 5, 1, 893, 11]), (.pop, 1, [])]),
  (123, [(.iinc 2 1, 3, []), (.goto (-102), 3, [24])]),
  (129, [(.aload_n 0, 1, []), (.invokevirtual 207, 3, [119, 0, 0, 913, 11]), (.aload_n 0, 1, []), (.iload_n 1, 1, []), (.invokevirtual 232, 3, [133, 1, 1, 969, 11]), (.ireturn, 1, [0])])]
/-- QueueBrokerModel.forget(I)I -/
def bk_133 : List (Nat × List Ins) := [(0, [(.aload_n 0, 1, []), (.getfield 50, 3, [11, 15, 701, 1]), (.iload_n 1, 1, []), (.iaload, 1, []), (.istore_n 2, 1, []), (.aload_n 0, 1, []), (.getfield 50, 3, [11, 15, 701, 1]), (.iload_n 1, 1, []), (.iconst 0, 1, []), (.iastore, 1, []), (.iconst 0, 1, []), (.istore_n 3, 1, [])]),
  (16, [(.iload_n 3, 1, []), (.aload_n 0, 1, []), (.getfield 142, 3, [11, 31, 717, 0]), (.if_icmp .ge 26, 3, [47]), (.aload_n 0, 1, []), (.getfield 83, 3, [11, 26, 712, 1]), (.iload_n 3, 1, []), (.iaload, 1, []), (.iload_n 1, 1, []), (.if_icmp .ne 10, 3, [41]), (.aload_n 0, 1, []), (.getfield 89, 3, [11, 28, 714, 1]), (.iload_n 3, 1, []), (.iconst 0, 1, []), (.iastore, 1, [])]),
  (41, [(.iinc 3 1, 3, []), (.goto (-28), 3, [16])]),
  (47, [(.iload_n 2, 1, []), (.ireturn, 1, [0])])]
/-- QueueBrokerModel.rollback(I)I -/
def bk_134 : List (Nat × List Ins) := [(0, [(.iload_n 1, 1, []), (.iconst 4, 1, []), (.invokestatic 119, 3, [95, 2, 1, 822]), (.ifCond .ne 5, 3, [10]), (.iconst (-1), 1, []), (.ireturn, 1, [0])]),
  (10, [(.aload_n 0, 1, []), (.getfield 53, 3, [11, 16, 702, 1]), (.iload_n 1, 1, []), (.baload, 1, []), (.ifCond .eq 11, 3, [27]), (.aload_n 0, 1, []), (.iload_n 1, 1, []), (.invokevirtual 232, 3, [133, 1, 1, 969, 11]), (.goto 5, 3, [29])]),
  (27, [(.bipush (-3), 2, [])]),
  (29, [(.ireturn, 1, [0])])]
/-- QueueBrokerModel.close(I)I -/
def bk_135 : List (Nat × List Ins) := [(0, [(.iload_n 1, 1, []), (.iconst 4, 1, []), (.invokestatic 119, 3, [95, 2, 1, 822]), (.ifCond .ne 5, 3, [10]), (.iconst (-1), 1, []), (.ireturn, 1, [0])]),
  (10, [(.aload_n 0, 1, []), (.iload_n 1, 1, []), (.invokevirtual 232, 3, [133, 1, 1, 969, 11]), (.pop, 1, []), (.iconst 0, 1, []), (.istore_n 2, 1, [])]),
  (18, [(.iload_n 2, 1, []), (.aload_n 0, 1, []), (.getfield 142, 3, [11, 31, 717, 0]), (.if_icmp .ge 25, 3, [48]), (.aload_n 0, 1, []), (.getfield 83, 3, [11, 26, 712, 1]), (.iload_n 2, 1, []), (.iaload, 1, []), (.iload_n 1, 1, []), (.if_icmp .ne 9, 3, [42]), (.aload_n 0, 1, []), (.iload_n 2, 1, []), (.iconst 1, 1, []), (.invokevirtual 224, 3, [129, 2, 0, 953, 11])]),
  (42, [(.iinc 2 1, 3, []), (.goto (-27), 3, [18])]),
  (48, [(.aload_n 0, 1, []), (.getfield 194, 3, [11, 12, 698, 0]), (.iconst 1, 1, []), (.isub, 1, []), (.istore_n 2, 1, [])]),
  (55, [(.iload_n 2, 1, []), (.ifCond .lt 24, 3, [80]), (.aload_n 0, 1, []), (.getfield 38, 3, [11, 10, 696, 1]), (.iload_n 2, 1, []), (.iaload, 1, []), (.iload_n 1, 1, []), (.if_icmp .ne 8, 3, [74]), (.aload_n 0, 1, []), (.iload_n 2, 1, []), (.invokevirtual 197, 3, [108, 1, 0, 870, 11])]),
  (74, [(.iinc 2 (-1), 3, []), (.goto (-22), 3, [55])]),
  (80, [(.aload_n 0, 1, []), (.getfield 44, 3, [11, 13, 699, 1]), (.iload_n 1, 1, []), (.bipush 12, 2, []), (.iastore, 1, []), (.aload_n 0, 1, []), (.getfield 53, 3, [11, 16, 702, 1]), (.iload_n 1, 1, []), (.iconst 0, 1, []), (.bastore, 1, []), (.aload_n 0, 1, []), (.getfield 47, 3, [11, 14, 700, 1]), (.iload_n 1, 1, []), (.iconst 0, 1, []), (.iastore, 1, []), (.iconst 0, 1, []), (.ireturn, 1, [0])])]
/-- QueueBrokerModel.crash()I -/
def bk_136 : List (Nat × List Ins) := [(0, [(.iconst 0, 1, []), (.istore_n 1, 1, [])]),
  (2, [(.iload_n 1, 1, []), (.iconst 4, 1, []), (.if_icmp .ge 15, 3, [19]), (.aload_n 0, 1, []), (.iload_n 1, 1, []), (.invokevirtual 235, 3, [135, 1, 1, 985, 11]), (.pop, 1, []), (.iinc 1 1, 3, []), (.goto (-14), 3, [2])]),
  (19, [(.iconst 0, 1, []), (.istore_n 1, 1, [])]),
  (21, [(.iload_n 1, 1, []), (.iconst 5, 1, []), (.if_icmp .ge 68, 3, [91]), (.aload_n 0, 1, []), (.iload_n 1, 1, []), (.invokevirtual 171, 3, [99, 1, 1, 837, 11]), (.ifCond .eq 54, 3, [85]), (.aload_n 0, 1, []), (.getfield 19, 3, [11, 3, 689, 1]), (.iload_n 1, 1, []), (.baload, 1, []), (.ifCond .eq 6, 3, [46]), (.goto 42, 3, [85])]),
  (46, [(.aload_n 0, 1, []), (.getfield 7, 3, [11, 0, 686, 1]), (.iload_n 1, 1, []), (.iconst (-1), 1, []), (.iastore, 1, []), (.aload_n 0, 1, []), (.getfield 135, 3, [11, 8, 694, 0]), (.iconst 1, 1, []), (.isub, 1, []), (.istore_n 2, 1, [])]),
  (60, [(.iload_n 2, 1, []), (.ifCond .lt 24, 3, [85]), (.aload_n 0, 1, []), (.getfield 26, 3, [11, 5, 691, 1]), (.iload_n 2, 1, []), (.iaload, 1, []), (.iload_n 1, 1, []), (.if_icmp .ne 8, 3, [79]), (.aload_n 0, 1, []), (.iload_n 2, 1, []), (.invokevirtual 191, 3, [105, 1, 0, 858, 11])]),
  (79, [(.iinc 2 (-1), 3, []), (.goto (-22), 3, [60])]),
  (85, [(.iinc 1 1, 3, []), (.goto (-67), 3, [21])]),
  (91, [(.iconst 0, 1, []), (.istore_n 1, 1, [])]),
  (93, [(.iload_n 1, 1, []), (.bipush 6, 2, []), (.if_icmp .ge 32, 3, [128]), (.aload_n 0, 1, []), (.iload_n 1, 1, []), (.invokevirtual 184, 3, [97, 1, 1, 829, 11]), (.ifCond .eq 18, 3, [122]), (.aload_n 0, 1, []), (.getfield 23, 3, [11, 4, 690, 1]), (.iload_n 1, 1, []), (.baload, 1, []), (.ifCond .ne 9, 3, [122]), (.aload_n 0, 1, []), (.iload_n 1, 1, []), (.invokevirtual 238, 3, [106, 1, 1, 986, 11]), (.pop, 1, [])]),
  (122, [(.iinc 1 1, 3, []), (.goto (-32), 3, [93])]),
  (128, [(.aload_n 0, 1, []), (.getfield 142, 3, [11, 31, 717, 0]), (.iconst 1, 1, []), (.isub, 1, []), (.istore_n 1, 1, [])]),
  (135, [(.iload_n 1, 1, []), (.ifCond .lt 23, 3, [159]), (.aload_n 0, 1, []), (.getfield 92, 3, [11, 29, 715, 1]), (.iload_n 1, 1, []), (.baload, 1, []), (.ifCond .ne 8, 3, [153]), (.aload_n 0, 1, []), (.iload_n 1, 1, []), (.invokevirtual 148, 3, [107, 1, 0, 866, 11])]),
  (153, [(.iinc 1 (-1), 3, []), (.goto (-21), 3, [135])]),
  (159, [(.aload_n 0, 1, []), (.getfield 142, 3, [11, 31, 717, 0]), (.ireturn, 1, [0])])]
/-- QueueBrokerModel.ready(III)J -/
def bk_137 : List (Nat × List Ins) := [(0, [(.aload_n 0, 1, []), (.iload_n 1, 1, []), (.invokevirtual 184, 3, [97, 1, 1, 829, 11]), (.ifCond .eq 15, 3, [20]), (.iload_n 2, 1, []), (.ifCond .lt 11, 3, [20]), (.iload_n 3, 1, []), (.iconst 5, 1, []), (.invokestatic 119, 3, [95, 2, 1, 822]), (.ifCond .ne 7, 3, [24])]),
  (20, [(.ldc2_w 241, 3, [18446743073709551616, 991]), (.lreturn, 1, [])]),
  (24, [(.aload_n 0, 1, []), (.iload_n 1, 1, []), (.iload_n 2, 1, []), (.invokevirtual 158, 3, [117, 2, 1, 905, 11]), (.istore 4, 2, []), (.iload 4, 2, []), (.ifCond .ge 9, 3, [43]), (.ldc2_w 241, 3, [18446743073709551616, 991]), (.goto 10, 3, [50])]),
  (43, [(.aload_n 0, 1, []), (.iload 4, 2, []), (.iload_n 3, 1, []), (.invokevirtual 243, 3, [138, 2, 3, 992, 11])]),
  (50, [(.lreturn, 1, [])])]
/-- QueueBrokerModel.field(II)J -/
def bk_138 : List (Nat × List Ins) := [(0, [(.iload_n 2, 1, []), (.ifCond .ne 11, 3, [12]), (.aload_n 0, 1, []), (.getfield 68, 3, [11, 21, 707, 1]), (.iload_n 1, 1, []), (.iaload, 1, []), (.i2l, 1, []), (.lreturn, 1, [])]),
  (12, [(.iload_n 2, 1, []), (.iconst 1, 1, []), (.if_icmp .ne 11, 3, [25]), (.aload_n 0, 1, []), (.getfield 71, 3, [11, 22, 708, 1]), (.iload_n 1, 1, []), (.iaload, 1, []), (.i2l, 1, []), (.lreturn, 1, [])]),
  (25, [(.iload_n 2, 1, []), (.iconst 2, 1, []), (.if_icmp .ne 11, 3, [38]), (.aload_n 0, 1, []), (.getfield 74, 3, [11, 23, 709, 1]), (.iload_n 1, 1, []), (.iaload, 1, []), (.i2l, 1, []), (.lreturn, 1, [])]),
  (38, [(.iload_n 2, 1, []), (.iconst 3, 1, []), (.if_icmp .ne 21, 3, [61]), (.aload_n 0, 1, []), (.getfield 95, 3, [11, 30, 716, 1]), (.iload_n 1, 1, []), (.baload, 1, []), (.ifCond .eq 7, 3, [56]), (.iconst 1, 1, []), (.goto 4, 3, [57])]),
  (56, [(.iconst 0, 1, [])]),
  (57, [(.i2l, 1, []), (.goto 17, 3, [75])]),
  (61, [(.aload_n 0, 1, []), (.getfield 92, 3, [11, 29, 715, 1]), (.iload_n 1, 1, []), (.baload, 1, []), (.ifCond .eq 7, 3, [74]), (.lconst 1, 1, []), (.goto 4, 3, [75])]),
  (74, [(.lconst 0, 1, [])]),
  (75, [(.lreturn, 1, [])])]
/-- QueueBrokerModel.held(III)J -/
def bk_139 : List (Nat × List Ins) := [(0, [(.iload_n 1, 1, []), (.iconst 4, 1, []), (.invokestatic 119, 3, [95, 2, 1, 822]), (.ifCond .eq 16, 3, [21]), (.iload_n 2, 1, []), (.ifCond .lt 12, 3, [21]), (.iload_n 3, 1, []), (.bipush 8, 2, []), (.invokestatic 119, 3, [95, 2, 1, 822]), (.ifCond .ne 7, 3, [25])]),
  (21, [(.ldc2_w 241, 3, [18446743073709551616, 991]), (.lreturn, 1, [])]),
  (25, [(.aload_n 0, 1, []), (.iload_n 1, 1, []), (.iload_n 2, 1, []), (.invokevirtual 247, 3, [140, 2, 1, 1000, 11]), (.istore 4, 2, []), (.iload 4, 2, []), (.ifCond .ge 7, 3, [42]), (.ldc2_w 241, 3, [18446743073709551616, 991]), (.lreturn, 1, [])]),
  (42, [(.iload_n 3, 1, []), (.iconst 5, 1, []), (.if_icmp .ge 11, 3, [55]), (.aload_n 0, 1, []), (.iload 4, 2, []), (.iload_n 3, 1, []), (.invokevirtual 243, 3, [138, 2, 3, 992, 11]), (.lreturn, 1, [])]),
  (55, [(.iload_n 3, 1, []), (.iconst 5, 1, []), (.if_icmp .ne 14, 3, [71]), (.aload_n 0, 1, []), (.getfield 86, 3, [11, 27, 713, 1]), (.iload 4, 2, []), (.iaload, 1, []), (.i2l, 1, []), (.goto 35, 3, [103])]),
  (71, [(.iload_n 3, 1, []), (.bipush 6, 2, []), (.if_icmp .ne 14, 3, [88]), (.aload_n 0, 1, []), (.getfield 77, 3, [11, 24, 710, 1]), (.iload 4, 2, []), (.iaload, 1, []), (.i2l, 1, []), (.goto 18, 3, [103])]),
  (88, [(.aload_n 0, 1, []), (.getfield 89, 3, [11, 28, 714, 1]), (.iload 4, 2, []), (.iaload, 1, []), (.ifCond .eq 7, 3, [102]), (.lconst 1, 1, []), (.goto 4, 3, [103])]),
  (102, [(.lconst 0, 1, [])]),
  (103, [(.lreturn, 1, [])])]
/-- QueueBrokerModel.heldAt(II)I -/
def bk_140 : List (Nat × List Ins) := [(0, [(.iconst 0, 1, []), (.istore_n 3, 1, [])]),
  (2, [(.iload_n 3, 1, []), (.aload_n 0, 1, []), (.getfield 142, 3, [11, 31, 717, 0]), (.if_icmp .ge 81, 3, [88]), (.aload_n 0, 1, []), (.getfield 83, 3, [11, 26, 712, 1]), (.iload_n 3, 1, []), (.iaload, 1, []), (.iload_n 1, 1, []), (.if_icmp .eq 6, 3, [23]), (.goto 62, 3, [82])]),
  (23, [(.iconst 0, 1, []), (.istore 4, 2, []), (.iconst 0, 1, []), (.istore 5, 2, [])]),
  (29, [(.iload 5, 2, []), (.aload_n 0, 1, []), (.getfield 142, 3, [11, 31, 717, 0]), (.if_icmp .ge 39, 3, [74]), (.aload_n 0, 1, []), (.getfield 83, 3, [11, 26, 712, 1]), (.iload 5, 2, []), (.iaload, 1, []), (.iload_n 1, 1, []), (.if_icmp .ne 22, 3, [68]), (.aload_n 0, 1, []), (.getfield 86, 3, [11, 27, 713, 1]), (.iload 5, 2, []), (.iaload, 1, []), (.aload_n 0, 1, []), (.getfield 86, 3, [11, 27, 713, 1]), (.iload_n 3, 1, []), (.iaload, 1, []), (.if_icmp .ge 6, 3, [68]), (.iinc 4 1, 3, [])]),
  (68, [(.iinc 5 1, 3, []), (.goto (-42), 3, [29])]),
  (74, [(.iload 4, 2, []), (.iload_n 2, 1, []), (.if_icmp .ne 5, 3, [82]), (.iload_n 3, 1, []), (.ireturn, 1, [0])]),
  (82, [(.iinc 3 1, 3, []), (.goto (-83), 3, [2])]),
  (88, [(.iconst (-1), 1, []), (.ireturn, 1, [0])])]
/-- QueueBrokerModel.count(II)I -/
def bk_141 : List (Nat × List Ins) := [(0, [(.iload_n 1, 1, []), (.iconst 5, 1, []), (.if_icmp .eq 9, 3, [11]), (.iload_n 1, 1, []), (.bipush 6, 2, []), (.if_icmp .ne 20, 3, [28])]),
  (11, [(.iload_n 1, 1, []), (.iconst 5, 1, []), (.if_icmp .ne 10, 3, [23]), (.aload_n 0, 1, []), (.getfield 177, 3, [11, 39, 725, 0]), (.goto 7, 3, [27])]),
  (23, [(.aload_n 0, 1, []), (.getfield 174, 3, [11, 40, 726, 0])]),
  (27, [(.ireturn, 1, [0])]),
  (28, [(.iload_n 1, 1, []), (.ifCond .eq 8, 3, [37]), (.iload_n 1, 1, []), (.iconst 1, 1, []), (.if_icmp .ne 12, 3, [46])]),
  (37, [(.iload_n 2, 1, []), (.bipush 6, 2, []), (.invokestatic 119, 3, [95, 2, 1, 822]), (.ifCond .ne 40, 3, [83])]),
  (46, [(.iload_n 1, 1, []), (.iconst 2, 1, []), (.if_icmp .eq 14, 3, [62]), (.iload_n 1, 1, []), (.iconst 3, 1, []), (.if_icmp .eq 9, 3, [62]), (.iload_n 1, 1, []), (.bipush 7, 2, []), (.if_icmp .ne 11, 3, [70])]),
  (62, [(.iload_n 2, 1, []), (.iconst 4, 1, []), (.invokestatic 119, 3, [95, 2, 1, 822]), (.ifCond .ne 16, 3, [83])]),
  (70, [(.iload_n 1, 1, []), (.iconst 4, 1, []), (.if_icmp .ne 15, 3, [87]), (.iload_n 2, 1, []), (.iconst 5, 1, []), (.invokestatic 119, 3, [95, 2, 1, 822]), (.ifCond .eq 7, 3, [87])]),
  (83, [(.iconst 1, 1, []), (.goto 4, 3, [88])]),
  (87, [(.iconst 0, 1, [])]),
  (88, [(.istore_n 3, 1, []), (.iload_n 3, 1, []), (.ifCond .ne 7, 3, [97]), (.sipush (-1000), 3, []), (.ireturn, 1, [0])]),
  (97, [(.iload_n 1, 1, []), (.ifCond .ne 21, 3, [119]), (.aload_n 0, 1, []), (.iload_n 2, 1, []), (.invokevirtual 184, 3, [97, 1, 1, 829, 11]), (.ifCond .eq 11, 3, [117]), (.aload_n 0, 1, []), (.iload_n 2, 1, []), (.invokevirtual 155, 3, [116, 1, 1, 901, 11]), (.goto 4, 3, [118])]),
  (117, [(.iconst 0, 1, [])]),
  (118, [(.ireturn, 1, [0])]),
  (119, [(.iload_n 1, 1, []), (.iconst 2, 1, []), (.if_icmp .ne 9, 3, [130]), (.aload_n 0, 1, []), (.iload_n 2, 1, []), (.invokevirtual 217, 3, [125, 1, 1, 937, 11]), (.ireturn, 1, [0])]),
  (130, [(.iload_n 1, 1, []), (.iconst 3, 1, []), (.if_icmp .ne 23, 3, [155]), (.aload_n 0, 1, []), (.getfield 53, 3, [11, 16, 702, 1]), (.iload_n 2, 1, []), (.baload, 1, []), (.ifCond .eq 12, 3, [153]), (.aload_n 0, 1, []), (.getfield 50, 3, [11, 15, 701, 1]), (.iload_n 2, 1, []), (.iaload, 1, []), (.goto 4, 3, [154])]),
  (153, [(.iconst (-1), 1, [])]),
  (154, [(.ireturn, 1, [0])]),
  (155, [(.iconst 0, 1, []), (.istore 4, 2, []), (.iload_n 1, 1, []), (.iconst 4, 1, []), (.if_icmp .ne 38, 3, [198]), (.iconst 0, 1, []), (.istore 5, 2, [])]),
  (166, [(.iload 5, 2, []), (.aload_n 0, 1, []), (.getfield 135, 3, [11, 8, 694, 0]), (.if_icmp .ge 23, 3, [195]), (.aload_n 0, 1, []), (.getfield 26, 3, [11, 5, 691, 1]), (.iload 5, 2, []), (.iaload, 1, []), (.iload_n 2, 1, []), (.if_icmp .ne 6, 3, [189]), (.iinc 4 1, 3, [])]),
  (189, [(.iinc 5 1, 3, []), (.goto (-26), 3, [166])]),
  (195, [(.iload 4, 2, []), (.ireturn, 1, [0])]),
  (198, [(.iconst 0, 1, []), (.istore 5, 2, [])]),
  (201, [(.iload 5, 2, []), (.aload_n 0, 1, []), (.getfield 194, 3, [11, 12, 698, 0]), (.if_icmp .ge 64, 3, [271]), (.iload_n 1, 1, []), (.iconst 1, 1, []), (.if_icmp .ne 17, 3, [229]), (.aload_n 0, 1, []), (.getfield 35, 3, [11, 9, 695, 1]), (.iload 5, 2, []), (.iaload, 1, []), (.iload_n 2, 1, []), (.if_icmp .ne 6, 3, [229]), (.iinc 4 1, 3, [])]),
  (229, [(.iload_n 1, 1, []), (.bipush 7, 2, []), (.if_icmp .ne 33, 3, [265]), (.aload_n 0, 1, []), (.getfield 35, 3, [11, 9, 695, 1]), (.iload 5, 2, []), (.iaload, 1, []), (.ifCond .eq 6, 3, [248]), (.goto 20, 3, [265])]),
  (248, [(.iload 4, 2, []), (.iload_n 2, 1, []), (.if_icmp .ne 11, 3, [262]), (.aload_n 0, 1, []), (.getfield 38, 3, [11, 10, 696, 1]), (.iload 5, 2, []), (.iaload, 1, []), (.ireturn, 1, [0])]),
  (262, [(.iinc 4 1, 3, [])]),
  (265, [(.iinc 5 1, 3, []), (.goto (-67), 3, [201])]),
  (271, [(.iload_n 1, 1, []), (.bipush 7, 2, []), (.if_icmp .ne 7, 3, [281]), (.iconst (-1), 1, []), (.goto 5, 3, [283])]),
  (281, [(.iload 4, 2, [])]),
  (283, [(.ireturn, 1, [0])])]
def bk_law_0 : List (Nat × List Ins) := [(0, [(.new 7, 3, [9, 69]), (.dup, 1, []), (.invokespecial 9, 3, [0, 0, 0, 71, 9]), (.astore_n 1, 1, []), (.new 10, 3, [11, 680]), (.dup, 1, []), (.invokespecial 12, 3, [93, 0, 0, 682, 11]), (.astore_n 2, 1, []), (.iconst 0, 1, []), (.istore_n 3, 1, [])]),
  (18, [(.iload_n 3, 1, []), (.aload_n 0, 1, []), (.arraylength, 1, []), (.bipush 6, 2, []), (.isub, 1, []), (.if_icmp .gt 849, 3, [873]), (.aload_n 0, 1, []), (.iload_n 3, 1, []), (.iaload, 1, []), (.bipush 31, 2, []), (.iand, 1, []), (.tableswitch 834 0 18 #[91, 150, 219, 262, 305, 328, 391, 450, 483, 506, 575, 608, 631, 654, 677, 700, 713, 757, 801], 91, [867, 124, 183, 252, 295, 338, 361, 424, 483, 516, 539, 608, 641, 664, 687, 710, 733, 746, 790, 834])]),
  (124, [(.aload_n 1, 1, []), (.aload_n 0, 1, []), (.iload_n 3, 1, []), (.iconst 1, 1, []), (.iadd, 1, []), (.iaload, 1, []), (.aload_n 0, 1, []), (.iload_n 3, 1, []), (.iconst 2, 1, []), (.iadd, 1, []), (.iaload, 1, []), (.aload_n 0, 1, []), (.iload_n 3, 1, []), (.iconst 3, 1, []), (.iadd, 1, []), (.iaload, 1, []), (.ifCond .eq 7, 3, [147]), (.iconst 1, 1, []), (.goto 4, 3, [148])]),
  (147, [(.iconst 0, 1, [])]),
  (148, [(.invokevirtual 13, 3, [7, 3, 1, 211, 9]), (.aload_n 2, 1, []), (.aload_n 0, 1, []), (.iload_n 3, 1, []), (.iconst 1, 1, []), (.iadd, 1, []), (.iaload, 1, []), (.aload_n 0, 1, []), (.iload_n 3, 1, []), (.iconst 2, 1, []), (.iadd, 1, []), (.iaload, 1, []), (.aload_n 0, 1, []), (.iload_n 3, 1, []), (.iconst 3, 1, []), (.iadd, 1, []), (.iaload, 1, []), (.ifCond .eq 7, 3, [174]), (.iconst 1, 1, []), (.goto 4, 3, [175])]),
  (174, [(.iconst 0, 1, [])]),
  (175, [(.invokevirtual 17, 3, [94, 3, 1, 818, 11]), (.if_icmp .eq 689, 3, [867]), (.iconst 0, 1, []), (.ireturn, 1, [4])]),
  (183, [(.aload_n 1, 1, []), (.aload_n 0, 1, []), (.iload_n 3, 1, []), (.iconst 1, 1, []), (.iadd, 1, []), (.iaload, 1, []), (.aload_n 0, 1, []), (.iload_n 3, 1, []), (.iconst 2, 1, []), (.iadd, 1, []), (.iaload, 1, []), (.aload_n 0, 1, []), (.iload_n 3, 1, []), (.iconst 3, 1, []), (.iadd, 1, []), (.iaload, 1, []), (.aload_n 0, 1, []), (.iload_n 3, 1, []), (.iconst 4, 1, []), (.iadd, 1, []), (.iaload, 1, []), (.ifCond .eq 7, 3, [211]), (.iconst 1, 1, []), (.goto 4, 3, [212])]),
  (211, [(.iconst 0, 1, [])]),
  (212, [(.invokevirtual 18, 3, [9, 4, 1, 218, 9]), (.aload_n 2, 1, []), (.aload_n 0, 1, []), (.iload_n 3, 1, []), (.iconst 1, 1, []), (.iadd, 1, []), (.iaload, 1, []), (.aload_n 0, 1, []), (.iload_n 3, 1, []), (.iconst 2, 1, []), (.iadd, 1, []), (.iaload, 1, []), (.aload_n 0, 1, []), (.iload_n 3, 1, []), (.iconst 3, 1, []), (.iadd, 1, []), (.iaload, 1, []), (.aload_n 0, 1, []), (.iload_n 3, 1, []), (.iconst 4, 1, []), (.iadd, 1, []), (.iaload, 1, []), (.ifCond .eq 7, 3, [243]), (.iconst 1, 1, []), (.goto 4, 3, [244])]),
  (243, [(.iconst 0, 1, [])]),
  (244, [(.invokevirtual 22, 3, [96, 4, 1, 825, 11]), (.if_icmp .eq 620, 3, [867]), (.iconst 0, 1, []), (.ireturn, 1, [4])])]
def bk_law_1 : List (Nat × List Ins) := [(252, [(.aload_n 1, 1, []), (.aload_n 0, 1, []), (.iload_n 3, 1, []), (.iconst 1, 1, []), (.iadd, 1, []), (.iaload, 1, []), (.aload_n 0, 1, []), (.iload_n 3, 1, []), (.iconst 2, 1, []), (.iadd, 1, []), (.iaload, 1, []), (.aload_n 0, 1, []), (.iload_n 3, 1, []), (.iconst 3, 1, []), (.iadd, 1, []), (.iaload, 1, []), (.invokevirtual 23, 3, [10, 3, 1, 222, 9]), (.aload_n 2, 1, []), (.aload_n 0, 1, []), (.iload_n 3, 1, []), (.iconst 1, 1, []), (.iadd, 1, []), (.iaload, 1, []), (.aload_n 0, 1, []), (.iload_n 3, 1, []), (.iconst 2, 1, []), (.iadd, 1, []), (.iaload, 1, []), (.aload_n 0, 1, []), (.iload_n 3, 1, []), (.iconst 3, 1, []), (.iadd, 1, []), (.iaload, 1, []), (.invokevirtual 27, 3, [98, 3, 1, 833, 11]), (.if_icmp .eq 577, 3, [867]), (.iconst 0, 1, []), (.ireturn, 1, [4])]),
  (295, [(.aload_n 1, 1, []), (.aload_n 0, 1, []), (.iload_n 3, 1, []), (.iconst 1, 1, []), (.iadd, 1, []), (.iaload, 1, []), (.aload_n 0, 1, []), (.iload_n 3, 1, []), (.iconst 2, 1, []), (.iadd, 1, []), (.iaload, 1, []), (.aload_n 0, 1, []), (.iload_n 3, 1, []), (.iconst 3, 1, []), (.iadd, 1, []), (.iaload, 1, []), (.invokevirtual 28, 3, [31, 3, 1, 342, 9]), (.aload_n 2, 1, []), (.aload_n 0, 1, []), (.iload_n 3, 1, []), (.iconst 1, 1, []), (.iadd, 1, []), (.iaload, 1, []), (.aload_n 0, 1, []), (.iload_n 3, 1, []), (.iconst 2, 1, []), (.iadd, 1, []), (.iaload, 1, []), (.aload_n 0, 1, []), (.iload_n 3, 1, []), (.iconst 3, 1, []), (.iadd, 1, []), (.iaload, 1, []), (.invokevirtual 31, 3, [104, 3, 1, 854, 11]), (.if_icmp .eq 534, 3, [867]), (.iconst 0, 1, []), (.ireturn, 1, [4])]),
  (338, [(.aload_n 1, 1, []), (.aload_n 0, 1, []), (.iload_n 3, 1, []), (.iconst 1, 1, []), (.iadd, 1, []), (.iaload, 1, []), (.invokevirtual 32, 3, [34, 1, 1, 355, 9]), (.aload_n 2, 1, []), (.aload_n 0, 1, []), (.iload_n 3, 1, []), (.iconst 1, 1, []), (.iadd, 1, []), (.iaload, 1, []), (.invokevirtual 36, 3, [106, 1, 1, 862, 11]), (.if_icmp .eq 511, 3, [867]), (.iconst 0, 1, []), (.ireturn, 1, [4])]),
  (361, [(.aload_n 1, 1, []), (.aload_n 0, 1, []), (.iload_n 3, 1, []), (.iconst 1, 1, []), (.iadd, 1, []), (.iaload, 1, []), (.aload_n 0, 1, []), (.iload_n 3, 1, []), (.iconst 2, 1, []), (.iadd, 1, []), (.iaload, 1, []), (.aload_n 0, 1, []), (.iload_n 3, 1, []), (.iconst 3, 1, []), (.iadd, 1, []), (.iaload, 1, []), (.aload_n 0, 1, []), (.iload_n 3, 1, []), (.iconst 4, 1, []), (.iadd, 1, []), (.iaload, 1, []), (.aload_n 0, 1, []), (.iload_n 3, 1, []), (.iconst 5, 1, []), (.iadd, 1, []), (.iaload, 1, []), (.invokevirtual 37, 3, [39, 5, 1, 379, 9]), (.aload_n 2, 1, []), (.aload_n 0, 1, []), (.iload_n 3, 1, []), (.iconst 1, 1, []), (.iadd, 1, []), (.iaload, 1, []), (.aload_n 0, 1, []), (.iload_n 3, 1, []), (.iconst 2, 1, []), (.iadd, 1, []), (.iaload, 1, []), (.aload_n 0, 1, []), (.iload_n 3, 1, []), (.iconst 3, 1, []), (.iadd, 1, []), (.iaload, 1, []), (.aload_n 0, 1, []), (.iload_n 3, 1, []), (.iconst 4, 1, []), (.iadd, 1, []), (.iaload, 1, []), (.aload_n 0, 1, []), (.iload_n 3, 1, []), (.iconst 5, 1, []), (.iadd, 1, []), (.iaload, 1, []), (.invokevirtual 41, 3, [109, 5, 1, 874, 11]), (.if_icmp .eq 448, 3, [867]), (.iconst 0, 1, []), (.ireturn, 1, [4])]),
  (424, [(.aload_n 1, 1, []), (.aload_n 0, 1, []), (.iload_n 3, 1, []), (.iconst 1, 1, []), (.iadd, 1, []), (.iaload, 1, []), (.aload_n 0, 1, []), (.iload_n 3, 1, []), (.iconst 2, 1, []), (.iadd, 1, []), (.iaload, 1, []), (.aload_n 0, 1, []), (.iload_n 3, 1, []), (.iconst 3, 1, []), (.iadd, 1, []), (.iaload, 1, []), (.ifCond .eq 7, 3, [447]), (.iconst 1, 1, []), (.goto 4, 3, [448])]),
  (447, [(.iconst 0, 1, [])]),
  (448, [(.invokevirtual 42, 3, [57, 3, 1, 520, 9]), (.aload_n 2, 1, []), (.aload_n 0, 1, []), (.iload_n 3, 1, []), (.iconst 1, 1, []), (.iadd, 1, []), (.iaload, 1, []), (.aload_n 0, 1, []), (.iload_n 3, 1, []), (.iconst 2, 1, []), (.iadd, 1, []), (.iaload, 1, []), (.aload_n 0, 1, []), (.iload_n 3, 1, []), (.iconst 3, 1, []), (.iadd, 1, []), (.iaload, 1, []), (.ifCond .eq 7, 3, [474]), (.iconst 1, 1, []), (.goto 4, 3, [475])]),
  (474, [(.iconst 0, 1, [])]),
  (475, [(.invokevirtual 45, 3, [120, 3, 1, 917, 11]), (.if_icmp .eq 389, 3, [867]), (.iconst 0, 1, []), (.ireturn, 1, [4])]),
  (483, [(.aload_n 1, 1, []), (.aload_n 0, 1, []), (.iload_n 3, 1, []), (.iconst 1, 1, []), (.iadd, 1, []), (.iaload, 1, []), (.aload_n 0, 1, []), (.iload_n 3, 1, []), (.iconst 2, 1, []), (.iadd, 1, []), (.iaload, 1, []), (.invokevirtual 46, 3, [60, 2, 1, 545, 9]), (.aload_n 2, 1, []), (.aload_n 0, 1, []), (.iload_n 3, 1, []), (.iconst 1, 1, []), (.iadd, 1, []), (.iaload, 1, []), (.aload_n 0, 1, []), (.iload_n 3, 1, []), (.iconst 2, 1, []), (.iadd, 1, []), (.iaload, 1, []), (.invokevirtual 50, 3, [123, 2, 1, 929, 11]), (.if_icmp .eq 356, 3, [867]), (.iconst 0, 1, []), (.ireturn, 1, [4])]),
  (516, [(.aload_n 1, 1, []), (.aload_n 0, 1, []), (.iload_n 3, 1, []), (.iconst 1, 1, []), (.iadd, 1, []), (.iaload, 1, []), (.invokevirtual 51, 3, [62, 1, 1, 555, 9]), (.aload_n 2, 1, []), (.aload_n 0, 1, []), (.iload_n 3, 1, []), (.iconst 1, 1, []), (.iadd, 1, []), (.iaload, 1, []), (.invokevirtual 54, 3, [124, 1, 1, 933, 11]), (.if_icmp .eq 333, 3, [867]), (.iconst 0, 1, []), (.ireturn, 1, [4])]),
  (539, [(.aload_n 1, 1, []), (.aload_n 0, 1, []), (.iload_n 3, 1, []), (.iconst 1, 1, []), (.iadd, 1, []), (.iaload, 1, []), (.aload_n 0, 1, []), (.iload_n 3, 1, []), (.iconst 2, 1, []), (.iadd, 1, []), (.iaload, 1, []), (.aload_n 0, 1, []), (.iload_n 3, 1, []), (.iconst 3, 1, []), (.iadd, 1, []), (.iaload, 1, []), (.ifCond .eq 7, 3, [562]), (.iconst 1, 1, []), (.goto 4, 3, [563])])]
def bk_law_2 : List (Nat × List Ins) := [(562, [(.iconst 0, 1, [])]),
  (563, [(.aload_n 0, 1, []), (.iload_n 3, 1, []), (.iconst 4, 1, []), (.iadd, 1, []), (.iaload, 1, []), (.invokevirtual 55, 3, [66, 4, 1, 572, 9]), (.aload_n 2, 1, []), (.aload_n 0, 1, []), (.iload_n 3, 1, []), (.iconst 1, 1, []), (.iadd, 1, []), (.iaload, 1, []), (.aload_n 0, 1, []), (.iload_n 3, 1, []), (.iconst 2, 1, []), (.iadd, 1, []), (.iaload, 1, []), (.aload_n 0, 1, []), (.iload_n 3, 1, []), (.iconst 3, 1, []), (.iadd, 1, []), (.iaload, 1, []), (.ifCond .eq 7, 3, [594]), (.iconst 1, 1, []), (.goto 4, 3, [595])]),
  (594, [(.iconst 0, 1, [])]),
  (595, [(.aload_n 0, 1, []), (.iload_n 3, 1, []), (.iconst 4, 1, []), (.iadd, 1, []), (.iaload, 1, []), (.invokevirtual 59, 3, [126, 4, 1, 941, 11]), (.if_icmp .eq 264, 3, [867]), (.iconst 0, 1, []), (.ireturn, 1, [4])]),
  (608, [(.aload_n 1, 1, []), (.aload_n 0, 1, []), (.iload_n 3, 1, []), (.iconst 1, 1, []), (.iadd, 1, []), (.iaload, 1, []), (.aload_n 0, 1, []), (.iload_n 3, 1, []), (.iconst 2, 1, []), (.iadd, 1, []), (.iaload, 1, []), (.invokevirtual 60, 3, [73, 2, 1, 600, 9]), (.aload_n 2, 1, []), (.aload_n 0, 1, []), (.iload_n 3, 1, []), (.iconst 1, 1, []), (.iadd, 1, []), (.iaload, 1, []), (.aload_n 0, 1, []), (.iload_n 3, 1, []), (.iconst 2, 1, []), (.iadd, 1, []), (.iaload, 1, []), (.invokevirtual 63, 3, [130, 2, 1, 957, 11]), (.if_icmp .eq 231, 3, [867]), (.iconst 0, 1, []), (.ireturn, 1, [4])]),
  (641, [(.aload_n 1, 1, []), (.aload_n 0, 1, []), (.iload_n 3, 1, []), (.iconst 1, 1, []), (.iadd, 1, []), (.iaload, 1, []), (.invokevirtual 64, 3, [74, 1, 1, 604, 9]), (.aload_n 2, 1, []), (.aload_n 0, 1, []), (.iload_n 3, 1, []), (.iconst 1, 1, []), (.iadd, 1, []), (.iaload, 1, []), (.invokevirtual 67, 3, [131, 1, 1, 961, 11]), (.if_icmp .eq 208, 3, [867]), (.iconst 0, 1, []), (.ireturn, 1, [4])]),
  (664, [(.aload_n 1, 1, []), (.aload_n 0, 1, []), (.iload_n 3, 1, []), (.iconst 1, 1, []), (.iadd, 1, []), (.iaload, 1, []), (.invokevirtual 68, 3, [75, 1, 1, 608, 9]), (.aload_n 2, 1, []), (.aload_n 0, 1, []), (.iload_n 3, 1, []), (.iconst 1, 1, []), (.iadd, 1, []), (.iaload, 1, []), (.invokevirtual 71, 3, [132, 1, 1, 965, 11]), (.if_icmp .eq 185, 3, [867]), (.iconst 0, 1, []), (.ireturn, 1, [4])]),
  (687, [(.aload_n 1, 1, []), (.aload_n 0, 1, []), (.iload_n 3, 1, []), (.iconst 1, 1, []), (.iadd, 1, []), (.iaload, 1, []), (.invokevirtual 72, 3, [78, 1, 1, 621, 9]), (.aload_n 2, 1, []), (.aload_n 0, 1, []), (.iload_n 3, 1, []), (.iconst 1, 1, []), (.iadd, 1, []), (.iaload, 1, []), (.invokevirtual 75, 3, [134, 1, 1, 973, 11]), (.if_icmp .eq 162, 3, [867]), (.iconst 0, 1, []), (.ireturn, 1, [4])]),
  (710, [(.aload_n 1, 1, []), (.aload_n 0, 1, []), (.iload_n 3, 1, []), (.iconst 1, 1, []), (.iadd, 1, []), (.iaload, 1, []), (.invokevirtual 76, 3, [79, 1, 1, 625, 9]), (.aload_n 2, 1, []), (.aload_n 0, 1, []), (.iload_n 3, 1, []), (.iconst 1, 1, []), (.iadd, 1, []), (.iaload, 1, []), (.invokevirtual 79, 3, [135, 1, 1, 977, 11]), (.if_icmp .eq 139, 3, [867]), (.iconst 0, 1, []), (.ireturn, 1, [4])]),
  (733, [(.aload_n 1, 1, []), (.invokevirtual 80, 3, [82, 0, 1, 637, 9]), (.aload_n 2, 1, []), (.invokevirtual 84, 3, [136, 0, 1, 981, 11]), (.if_icmp .eq 126, 3, [867]), (.iconst 0, 1, []), (.ireturn, 1, [4])]),
  (746, [(.aload_n 1, 1, []), (.aload_n 0, 1, []), (.iload_n 3, 1, []), (.iconst 1, 1, []), (.iadd, 1, []), (.iaload, 1, []), (.aload_n 0, 1, []), (.iload_n 3, 1, []), (.iconst 2, 1, []), (.iadd, 1, []), (.iaload, 1, []), (.aload_n 0, 1, []), (.iload_n 3, 1, []), (.iconst 3, 1, []), (.iadd, 1, []), (.iaload, 1, []), (.invokevirtual 85, 3, [85, 3, 3, 649, 9]), (.aload_n 2, 1, []), (.aload_n 0, 1, []), (.iload_n 3, 1, []), (.iconst 1, 1, []), (.iadd, 1, []), (.iaload, 1, []), (.aload_n 0, 1, []), (.iload_n 3, 1, []), (.iconst 2, 1, []), (.iadd, 1, []), (.iaload, 1, []), (.aload_n 0, 1, []), (.iload_n 3, 1, []), (.iconst 3, 1, []), (.iadd, 1, []), (.iaload, 1, []), (.invokevirtual 89, 3, [137, 3, 3, 987, 11]), (.lcmp, 1, []), (.ifCond .eq 82, 3, [867]), (.iconst 0, 1, []), (.ireturn, 1, [4])]),
  (790, [(.aload_n 1, 1, []), (.aload_n 0, 1, []), (.iload_n 3, 1, []), (.iconst 1, 1, []), (.iadd, 1, []), (.iaload, 1, []), (.aload_n 0, 1, []), (.iload_n 3, 1, []), (.iconst 2, 1, []), (.iadd, 1, []), (.iaload, 1, []), (.aload_n 0, 1, []), (.iload_n 3, 1, []), (.iconst 3, 1, []), (.iadd, 1, []), (.iaload, 1, []), (.invokevirtual 90, 3, [87, 3, 3, 657, 9]), (.aload_n 2, 1, []), (.aload_n 0, 1, []), (.iload_n 3, 1, []), (.iconst 1, 1, []), (.iadd, 1, []), (.iaload, 1, []), (.aload_n 0, 1, []), (.iload_n 3, 1, []), (.iconst 2, 1, []), (.iadd, 1, []), (.iaload, 1, []), (.aload_n 0, 1, []), (.iload_n 3, 1, []), (.iconst 3, 1, []), (.iadd, 1, []), (.iaload, 1, []), (.invokevirtual 93, 3, [139, 3, 3, 996, 11]), (.lcmp, 1, []), (.ifCond .eq 38, 3, [867]), (.iconst 0, 1, []), (.ireturn, 1, [4])])]
def bk_law_3 : List (Nat × List Ins) := [(834, [(.aload_n 1, 1, []), (.aload_n 0, 1, []), (.iload_n 3, 1, []), (.iconst 1, 1, []), (.iadd, 1, []), (.iaload, 1, []), (.aload_n 0, 1, []), (.iload_n 3, 1, []), (.iconst 2, 1, []), (.iadd, 1, []), (.iaload, 1, []), (.invokevirtual 94, 3, [89, 2, 1, 664, 9]), (.aload_n 2, 1, []), (.aload_n 0, 1, []), (.iload_n 3, 1, []), (.iconst 1, 1, []), (.iadd, 1, []), (.iaload, 1, []), (.aload_n 0, 1, []), (.iload_n 3, 1, []), (.iconst 2, 1, []), (.iadd, 1, []), (.iaload, 1, []), (.invokevirtual 97, 3, [141, 2, 1, 1004, 11]), (.if_icmp .eq 5, 3, [867]), (.iconst 0, 1, []), (.ireturn, 1, [4])]),
  (867, [(.iinc 3 6, 3, []), (.goto (-852), 3, [18])]),
  (873, [(.iconst 1, 1, []), (.ireturn, 1, [4])])]
def bk_law : List (Nat × List Ins) := bk_law_0 ++ (bk_law_1 ++ (bk_law_2 ++ (bk_law_3)))
def bkL : List (List (Nat × List Ins)) := [bk_0, bk_1, bk_2, bk_3, bk_4, bk_5, bk_6, bk_7, bk_8, bk_9, bk_10, bk_11, bk_12, bk_13, bk_14, bk_15, bk_16, bk_17, bk_18, bk_19, bk_20, bk_21, bk_22, bk_23, bk_24, bk_25, bk_26, bk_27, bk_28, bk_29, bk_30, bk_31, bk_32, bk_33, bk_34, bk_35, bk_36, bk_37, bk_38, bk_39, bk_40, bk_41, bk_42, bk_43, bk_44, bk_45, bk_46, bk_47, bk_48, bk_49, bk_50, bk_51, bk_52, bk_53, bk_54, bk_55, bk_56, bk_57, bk_58, bk_59, bk_60, bk_61, bk_62, bk_63, bk_64, bk_65, bk_66, bk_67, bk_68, bk_69, bk_70, bk_71, bk_72, bk_73, bk_74, bk_75, bk_76, bk_77, bk_78, bk_79, bk_80, bk_81, bk_82, bk_83, bk_84, bk_85, bk_86, bk_87, bk_88, bk_89, bk_90, bk_91, bk_92, bk_93, bk_94, bk_95, bk_96, bk_97, bk_98, bk_99, bk_100, bk_101, bk_102, bk_103, bk_104, bk_105, bk_106, bk_107, bk_108, bk_109, bk_110, bk_111, bk_112, bk_113, bk_114, bk_115, bk_116, bk_117, bk_118, bk_119, bk_120, bk_121, bk_122, bk_123, bk_124, bk_125, bk_126, bk_127, bk_128, bk_129, bk_130, bk_131, bk_132, bk_133, bk_134, bk_135, bk_136, bk_137, bk_138, bk_139, bk_140, bk_141]
def mbk (j : Nat) : List (Nat × List Ins) := (bkL[j]?).getD []
/-! WHAT A PROGRAM CHECKS of a block: the bytes decode so, and each word named lies at its place in the tables. -/
def lw_is (w : Nat) (c : Cond) : Bool := decide (lw_tbl[w]? = some c)
def mD : MethodName × ByteArray × Nat × Option FieldType × Nat × Nat × Nat × Nat × Nat := (⟨"", "", ""⟩, ⟨#[]⟩, 0, none, 0, 0, 0, 0, 0)
def mR_ (j : Nat) : MethodName × ByteArray × Nat × Option FieldType × Nat × Nat × Nat × Nat × Nat := (mI[j]?).getD mD
def mY (j : Nat) : MethodName := (mR_ j).1
def mB (j : Nat) : ByteArray := (mR_ j).2.1
def mL (j : Nat) : Nat := (mR_ j).2.2.1
def mR (j : Nat) : Option FieldType := (mR_ j).2.2.2.1
def mN (j : Nat) : Nat := (mR_ j).2.2.2.2.1
def fld_ok (own : String) (idx t k w : Nat) : Bool := match vwc[t - 1]? with
  | some (C, T, N) => Nat.ble 1 t && Nat.blt t 100 && Nat.blt k N && (lw_is w (.fieldLink own idx (T k).1 (T k).2.1 (T k).2.2.1) || (lw_is w (.fieldLink own idx C (T k).2.1 (T k).2.2.1) && lw_is 101 (.sameField C (T k).1 (T k).2.1 (T k).2.2.1)))
  | none => false
def kd_ok : Nat → Option FieldType → Bool
  | 0, some .int => true
  | 4, some .boolean => true
  | 1, some (.object _) => true
  | 1, some (.array _) => true
  | 2, some (.object _) => true
  | _, _ => false
def fin_ok (own : String) (ini : Bool) (t k kd : Nat) : Bool := match vwc[t - 1]? with
  | some (_, T, _) => kd_ok kd (parseFieldDescriptor (T k).2.2.1) && (!(T k).2.2.2 || (ini && decide ((T k).1 = own)))
  | none => false
def cl_ok (own : String) (idx t w : Nat) : Bool := match vwc[t - 1]? with
  | some (C, _, _) => Nat.ble 1 t && Nat.blt t 100 && lw_is w (.classLink own idx C)
  | none => false
def chk1 (own : String) (nL : Nat) (rt : Option FieldType) (ini : Bool) (i : Instr) (n : Nat) (an : List Nat) (pc : Nat) : Bool := match i with
  | .bipush _ | .iload _ | .aload _ => n == 2
  | .sipush _ => n == 3
  | .ldc idx => n == 2 && match an with
    | [v, w] => lw_is w (.constant own idx (Int32.ofNat v))
    | [w] => lw_is w (.classLink own idx "[Ljava/lang/Object;")
    | _ => true
  | .ldc_w idx => n == 3 && match an with
    | [v, w] => lw_is w (.constant own idx (Int32.ofNat v))
    | _ => true
  | .ldc2_w idx => n == 3 && match an with
    | [v, w] => lw_is w (.constantLong own idx (Int64.ofNat v))
    | _ => true
  | .istore x | .astore x => n == 2 && Nat.blt x nL
  | .istore_n x | .astore_n x => n == 1 && Nat.blt x.val nL
  | .iinc x _ => n == 3 && Nat.blt x nL
  | .ifCond _ off | .if_icmp _ off | .if_acmp _ off | .ifnonnull off | .goto off => n == 3 && match an with
    | [t] => decide ((pc : Int) + off = (t : Int))
    | _ => true
  | .tableswitch dflt lo hi offs => match an with
    | d :: ts => decide ((pc : Int) + dflt = (d : Int)) && decide (ts.map (fun (t : Nat) => ((t : Int) - (pc : Int))) = offs.toList) && decide (lo + (ts.length : Int) = hi + 1)
    | _ => true
  | .getfield idx => n == 3 && match an with
    | [t, k, w, _] => fld_ok own idx t k w
    | _ => true
  | .putfield idx => n == 3 && match an with
    | [t, k, w, kd] => fld_ok own idx t k w && fin_ok own ini t k kd
    | _ => true
  | .getstatic idx => n == 3 && match an with
    | [w] => lw_is w (.fieldLink own idx "java/util/ArrayList" "DEFAULTCAPACITY_EMPTY_ELEMENTDATA" "[Ljava/lang/Object;")
    | _ => true
  | .new idx => n == 3 && match an with
    | [t, w] => cl_ok own idx t w
    | _ => true
  | .newarray ty => n == 2 && match an with
    | [t] => (decide (ty = .int) && t == 104) || (decide (ty = .boolean) && t == 105)
    | _ => true
  | .anewarray idx => n == 3 && match an with
    | [t, w] => Nat.ble 100 t && Nat.blt t 104 && match aks[t - 100]? with
      | some (.object C) => lw_is w (.classLink own idx C)
      | _ => false
    | _ => true
  | .checkcast idx => n == 3 && match an with
    | [t, w, cw] => cl_ok own idx t w && match vwc[t - 1]? with
      | some (C, _, _) => lw_is cw (.castable C C)
      | none => false
    | _ => true
  | .invokevirtual idx => n == 3 && match an with
    | [j, na, _, w, tC] => Nat.blt j mI.length && lw_is w (.methodLink own idx (mY j)) && mN j == na + 1 && Nat.ble 1 tC && Nat.blt tC 100 && lw_is (mR_ j).2.2.2.2.2.2.1 (.instanceMethod (mY j)) && lw_is (mR_ j).2.2.2.2.2.2.2.1 (.selects (mY j).cls (mY j) (mY j)) && match vwc[tC - 1]? with
      | some (C, _, _) => decide ((mY j).cls = C)
      | none => false
    | [w] => lw_is w (.methodLink own idx ⟨"java/lang/Object", "getClass", "()Ljava/lang/Class;"⟩)
    | _ => true
  | .invokespecial idx => n == 3 && match an with
    | [j, na, _, w, _] => Nat.blt j mI.length && (lw_is w (.methodLink own idx (mY j)) || lw_is w (.methodLinkNest own idx (mY j) "QueueBroker")) && mN j == na + 1 && decide ((mY j).name = "<init>") && decide (mR j = none) && lw_is (mR_ j).2.2.2.2.2.2.1 (.instanceMethod (mY j))
    | [w] => lw_is w (.methodLink own idx objectInit)
    | _ => true
  | .invokestatic idx => n == 3 && match an with
    | [j, na, _, w] => Nat.blt j mI.length && lw_is w (.methodLink own idx (mY j)) && mN j == na && lw_is (mR_ j).2.2.2.2.2.2.1 (.static (mY j))
    | [0, w] => lw_is w (.methodLink own idx Lib.Math.max.name)
    | [1, w] => lw_is w (.methodLink own idx Lib.Math.min.name)
    | [2, w] => lw_is w (.methodLink own idx arraycopyName)
    | _ => true
  | .ireturn => n == 1 && match an with
    | [0] => decide (rt = some .int)
    | [4] => decide (rt = some .boolean)
    | _ => true
  | .lreturn => n == 1 && decide (rt = some .long)
  | .areturn => n == 1 && match rt with
    | some (.object _) => true
    | some (.array _) => true
    | _ => false
  | .return_ => n == 1 && decide (rt = none)
  | _ => n == 1
def chk (own : String) (cc : ByteArray) (nL : Nat) (rt : Option FieldType) (ini : Bool) : List Ins → Nat → Bool
  | [], _ => true
  | (i, n, an) :: r, pc => decide (decode cc pc = .ok (i, n)) && (chk1 own nL rt ini i n an pc && chk own cc nL rt ini r (pc + n))
def chkB (own : String) (cc : ByteArray) (nL : Nat) (rt : Option FieldType) (ini : Bool) (b : List (Nat × List Ins)) : Bool := b.all (fun x => chk own cc nL rt ini x.2 x.1)
/-- a method's own words, and its blocks -/
def chkM (j : Nat) : Bool :=
  plainName (mY j).cls && lw_is (mR_ j).2.2.2.2.2.1 (.code (mY j) (mB j) (mL j) (mR j)) && lw_is (mR_ j).2.2.2.2.2.2.2.2 (.initialized (mY j).cls) && Nat.ble (mL j) 12 && Nat.ble (mN j) (mL j) &&
  decide ((mY j).cls ≠ "java/lang/invoke/MethodHandle") && decide ((mY j).cls ≠ "java/lang/invoke/VarHandle") &&
  (match (parseMethodDescriptor (mY j).desc).map (fun d => d.parameters.length) with
    | some n => (decide (lw_is (mR_ j).2.2.2.2.2.2.1 (.static (mY j)) = true) && mN j == n) || (decide (lw_is (mR_ j).2.2.2.2.2.2.1 (.instanceMethod (mY j)) = true) && mN j == n + 1)
    | none => false) &&
  chkB (mY j).cls (mB j) (mL j) (mR j) (decide ((mY j).name = "<init>")) (mbk j)
/-- a method's answers: d frames deep at the most -/
def WP (gc : Nat → Nat) : Nat → Nat → List Value → AH → PT → Prop
  | 0, _, _, _, _ => False
  | d + 1, j, args, h, q => match args.all c1_, Nat.ble args.length (mL j) with
    | true, true => ∃ q0 : PT, (∀ r h', q0 r h' → q r h') ∧ Tf gc (WP gc d) (mbk j) q0 0 (args ++ List.replicate (mL j - args.length) (.retAddr 0)) [] h
    | _, _ => False
/-- the end may be weakened -/
theorem WP_post {gc : Nat → Nat} {d j : Nat} {args : List Value} {h : AH} {q q' : PT} (hw : WP gc d j args h q) (hq : ∀ r h', q r h' → q' r h') : WP gc d j args h q' := by
  cases d with
  | zero => exact hw
  | succ d =>
    simp only [WP] at hw ⊢
    split at hw
    · obtain ⟨q0, h1, h2⟩ := hw
      exact ⟨q0, fun r h' z => hq r h' (h1 r h' z), h2⟩
    · exact hw
end
section
/-! WHAT THE PREDICATE SAYS IS SO: the machine walks as the blocks say. -/
def GL : List Cond := lw_tbl.filter goodWord
theorem tb_in {w : Nat} {x : Cond} (h : lw_is w x = true) : x ∈ lw_tbl := by
  unfold lw_is at h
  exact List.mem_of_getElem? (of_decide_eq_true h)
theorem gl_in {w : Nat} {x : Cond} (h : lw_is w x = true) (hg : goodWord x = true) : x ∈ GL := List.mem_filter.mpr ⟨tb_in h, hg⟩
theorem gl_good {ws : List Cond} (h : ∀ w ∈ ws, w ∈ GL) : GoodIn GL ws := fun w hw => ⟨h w hw, good_of_word (List.mem_filter.mp (h w hw)).2⟩
def isNw : Cond → Bool
  | .methodLinkNest .. => true
  | .castable .. => true
  | .declares _ => true
  | _ => false
def KX (D : va_G) (tys : List (ClassId × FieldType)) (gc : Nat → Nat) (H0 : Heap) (s : State) : Prop :=
  va_K D vwc tys s ∧ tys.map (fun q => q.2) = aks ∧ (∀ w ∈ lw_tbl, isNw w = true → va_Nw w s) ∧ (∀ C : String, Cond.arrayOver (.object C) ∈ lw_tbl → va_AO C s) ∧ va_Mi "[Ljava/lang/Object;" (gc 0) s ∧ va_Z "java/util/ArrayList" "DEFAULTCAPACITY_EMPTY_ELEMENTDATA" "[Ljava/lang/Object;" (.ref (gc 1)) (fun q => H0.size ≤ q) s H0 ∧ (∃ scr : Cell, H0[gc 2]? = some scr ∧ s.isArrayOf scr .int ∧ scr.vm ≠ .unknown) ∧ ∃ cell : Cell, H0[gc 1]? = some cell ∧ s.isArrayOf cell (.object "java/lang/Object") ∧ cell.slots.size.toInt32 = 0
theorem KX.moved {D : va_G} {tys : List (ClassId × FieldType)} {gc : Nat → Nat} {H0 : Heap} {s U : State} (hW : s.WarmedH U.vm) (h : KX D tys gc H0 s) : KX D tys gc H0 U := by
  obtain ⟨h1, h2, h3, h4, h5, h6, ⟨scr, h8, h9, h10⟩, cl0, h11, h12, h13⟩ := h
  refine ⟨h1.moved hW.alike, h2, fun w hw hn => ?_, fun C hC => (h4 C hC).moved hW.alike, h5.moved hW.alike, h6.moved hW.alike, ⟨scr, h8, State.isArrayOf_alike hW.alike h9, h10⟩, cl0, h11, State.isArrayOf_alike hW.alike h12, h13⟩
  have h7 := h3 w hw hn
  cases w <;> first | exact va_Nw.warmM hW h7 | exact va_Nw.warmC hW h7 | exact va_Nw.warmD hW h7 | exact absurd hn (by simp [isNw])
/-- a class's rows, checked -/
def clsB (c : Nat) (r : vw_C) : Bool :=
  (List.range r.2.2).all (fun k => decide (u_lay r.1 r.2.1 k ∈ lw_tbl) && (goodWord (u_lay r.1 r.2.1 k) && ((parseFieldDescriptor (r.2.1 k).2.2.1).isSome && decide (defaultValue ((parseFieldDescriptor (r.2.1 k).2.2.1).getD .int) = vp_V (dfl (c + 1)) k)))) &&
  ((List.range r.2.2).all (fun a => (List.range r.2.2).all (fun b => a == b || decide ((r.2.1 a).2.1 ≠ (r.2.1 b).2.1))) && (decide (Cond.instantiable r.1 r.2.2 ∈ lw_tbl) && (decide (Cond.initialized r.1 ∈ lw_tbl) && (dfl (c + 1)).length == r.2.2)))
set_option maxRecDepth 100000 in
theorem cs_0 : (vwc[0]?).all (clsB 0) = true := by decide +kernel
set_option maxRecDepth 100000 in
theorem cs_1 : (vwc[1]?).all (clsB 1) = true := by decide +kernel
set_option maxRecDepth 100000 in
theorem cs_2 : (vwc[2]?).all (clsB 2) = true := by decide +kernel
set_option maxRecDepth 100000 in
theorem cs_3 : (vwc[3]?).all (clsB 3) = true := by decide +kernel
set_option maxRecDepth 100000 in
theorem cs_4 : (vwc[4]?).all (clsB 4) = true := by decide +kernel
set_option maxRecDepth 100000 in
theorem cs_5 : (vwc[5]?).all (clsB 5) = true := by decide +kernel
set_option maxRecDepth 100000 in
theorem cs_6 : (vwc[6]?).all (clsB 6) = true := by decide +kernel
set_option maxRecDepth 100000 in
theorem cs_7 : (vwc[7]?).all (clsB 7) = true := by decide +kernel
set_option maxRecDepth 100000 in
theorem cs_8 : (vwc[8]?).all (clsB 8) = true := by decide +kernel
set_option maxRecDepth 100000 in
theorem cs_9 : (vwc[9]?).all (clsB 9) = true := by decide +kernel
set_option maxRecDepth 100000 in
theorem cs_10 : (vwc[10]?).all (clsB 10) = true := by decide +kernel
theorem vwc_ok {c : Nat} {r : vw_C} (h : vwc[c]? = some r) : clsB c r = true := by
  have key : ∀ (a : Option vw_C), a.all (clsB c) = true → a = some r → clsB c r = true := fun a h1 h2 => by subst h2; exact h1
  refine key _ ?_ h
  match c with
  | 0 => exact cs_0
  | 1 => exact cs_1
  | 2 => exact cs_2
  | 3 => exact cs_3
  | 4 => exact cs_4
  | 5 => exact cs_5
  | 6 => exact cs_6
  | 7 => exact cs_7
  | 8 => exact cs_8
  | 9 => exact cs_9
  | 10 => exact cs_10
  | n + 11 => simp [vwc] at h
def tyc (r : vw_C) (k : Nat) : FieldType := (parseFieldDescriptor (r.2.1 k).2.2.1).getD .int
theorem cls_spec {c : Nat} {r : vw_C} (h : vwc[c]? = some r) : (∀ w ∈ u_ws r.1 r.2.1 r.2.2, w ∈ GL) ∧ (∀ k, k < r.2.2 → parseFieldDescriptor (r.2.1 k).2.2.1 = some (tyc r k)) ∧ (∀ a, a < r.2.2 → ∀ b, b < r.2.2 → a ≠ b → (r.2.1 a).2.1 ≠ (r.2.1 b).2.1) ∧
    Cond.instantiable r.1 r.2.2 ∈ GL ∧ Cond.initialized r.1 ∈ GL ∧ (dfl (c + 1)).length = r.2.2 ∧ ∀ j, j < r.2.2 → defaultValue (tyc r j) = vp_V (dfl (c + 1)) j := by
  have h1 := vwc_ok h
  unfold clsB at h1
  simp only [Bool.and_eq_true, List.all_eq_true, List.mem_range, decide_eq_true_eq, Bool.or_eq_true, beq_iff_eq] at h1
  obtain ⟨f1, f2, f3, f4, f5⟩ := h1
  have hp : ∀ k, k < r.2.2 → parseFieldDescriptor (r.2.1 k).2.2.1 = some (tyc r k) := fun k hk => by
    obtain ⟨-, -, g, -⟩ := f1 k hk
    unfold tyc
    cases hz : parseFieldDescriptor (r.2.1 k).2.2.1 with
    | none => rw [hz] at g; cases g
    | some y => rfl
  refine ⟨fun w hw => ?_, hp, fun a ha b hb hab => ?_, List.mem_filter.mpr ⟨f3, rfl⟩, List.mem_filter.mpr ⟨f4, rfl⟩, f5, fun j hj => (f1 j hj).2.2.2⟩
  · obtain ⟨k, hk, rfl⟩ := List.mem_map.mp hw
    have hk := List.mem_range.mp hk
    exact List.mem_filter.mpr ⟨(f1 k hk).1, (f1 k hk).2.1⟩
  · rcases f2 a ha b hb with g | g
    · exact absurd g hab
    · exact g
end
section
/-! locals -/
def prs1 (i : Nat) : Option Value → Option (Nat × Value)
  | some (.retAddr _) => none
  | some v => some (i, v)
  | none => none
def prs (L : List Value) : List (Nat × Value) := (List.range L.length).filterMap (fun i => prs1 i L[i]?)
def noRA (v : Value) : Prop := ∀ n, v ≠ .retAddr n
theorem mem_prs {L : List Value} {i : Nat} {v : Value} : (i, v) ∈ prs L ↔ L[i]? = some v ∧ noRA v := by
  unfold prs
  rw [List.mem_filterMap]
  constructor
  · rintro ⟨j, hj, h⟩
    cases hL : L[j]? with
    | none => rw [hL] at h; cases h
    | some w =>
      rw [hL] at h
      cases w <;> first | (cases h; done) | (simp only [prs1, Option.some.injEq, Prod.mk.injEq] at h; obtain ⟨rfl, rfl⟩ := h; exact ⟨hL, fun n z => by cases z⟩)
  · rintro ⟨h1, h2⟩
    refine ⟨i, List.mem_range.mpr (List.getElem?_eq_some_iff.mp h1).1, ?_⟩
    rw [h1]
    cases v <;> first | rfl | exact absurd rfl (h2 _)
def lvl (ls : Array Slot) (L : List Value) : Prop := lv_has ls L.length (prs L) ∧ ∀ v ∈ L, v.category = 1
theorem lvl_at {ls : Array Slot} {L : List Value} {i : Nat} {v : Value} (h : lvl ls L) (hv : L[i]? = some v) (hn : noRA v) : ls[i]? = some (.val v) := h.1.2.2 (i, v) (mem_prs.mpr ⟨hv, hn⟩)
theorem lvl_set {ls : Array Slot} {L : List Value} {x : Nat} {v : Value} (h : lv_has ls L.length ((x, v) :: (prs L).filter (fun q => !(q.1 == x) && !(q.1 + 1 == x && q.2.category == 2)))) (hc : ∀ w ∈ L, w.category = 1) (hv : v.category = 1) (hx : x < L.length) : lvl ls (L.set x v) := by
  refine ⟨⟨by rw [List.length_set]; exact h.1, h.2.1, fun q hq => ?_⟩, fun w hw => ?_⟩
  · obtain ⟨j, w⟩ := q
    obtain ⟨h1, h2⟩ := mem_prs.mp hq
    by_cases e : j = x
    · subst e
      rw [List.getElem?_set_self hx] at h1
      cases h1
      exact h.2.2 _ List.mem_cons_self
    · rw [List.getElem?_set_ne (Ne.symm e)] at h1
      refine h.2.2 (j, w) (List.mem_cons_of_mem _ (List.mem_filter.mpr ⟨mem_prs.mpr ⟨h1, h2⟩, ?_⟩))
      have := hc w (List.mem_of_getElem? h1)
      simp [e, this]
  · rcases List.mem_or_eq_of_mem_set hw with g | g
    · exact hc w g
    · rw [g]; exact hv
/-! the heap by the picture -/
theorem gfk_elim {kd : Nat} {h : AH} {a t k : Nat} {nx : Value → Prop} (g : gfk kd h a t k nx) : ∃ (vs : List Value) (v : Value), at_ h a t vs ∧ vs[k]? = some v ∧ nx v := by
  match kd, g with
  | 0, ⟨vs, x, h1, h2, h3⟩ => exact ⟨vs, _, h1, h2, h3⟩
  | 1, ⟨vs, x, h1, h2, h3⟩ => exact ⟨vs, _, h1, h2, h3⟩
  | 2, Or.inl ⟨vs, h1, h2, h3⟩ => exact ⟨vs, _, h1, h2, h3⟩
  | 2, Or.inr ⟨vs, x, h1, h2, h3⟩ => exact ⟨vs, _, h1, h2, h3⟩
theorem ce_obj {D : va_G} {tys : List (ClassId × FieldType)} {H0 H : Heap} {LC LS : Nat} {h : AH} {a t : Nat} {vs : List Value} (hR : Rl D vwc tys H0 LC LS h H) (ha : at_ h a t vs) (h1 : 1 ≤ t) (h2 : t < 100) :
    H0.size ≤ a ∧ a < h.1 ∧ ∃ r : vw_C, vwc[t - 1]? = some r ∧ vs.length = r.2.2 ∧ t_OB a (D.1 (t - 1)) r.2.2 (D.2 (t - 1)) H (vp_V vs) := by
  obtain ⟨-, -, -, -, -, h6⟩ := hR
  have h7 := h6 a (by rw [show h.2.2.2 a = (t, vs) from ha]; show t ≠ 0; omega)
  rw [show h.2.2.2 a = (t, vs) from ha] at h7
  obtain ⟨⟨g1, g2⟩, g3⟩ := h7
  refine ⟨?_, g1, ?_⟩
  · apply Nat.le_of_not_lt
    intro z
    rcases g2 z with g | g
    · have : (200 : Nat) ≤ t := g
      omega
    · have : 100 ≤ t := g.1
      omega
  · unfold ce_at at g3
    rw [if_pos (show t < 100 from h2)] at g3
    exact g3
theorem ce_arr {D : va_G} {tys : List (ClassId × FieldType)} {H0 H : Heap} {LC LS : Nat} {h : AH} {a t : Nat} {vs : List Value} (hR : Rl D vwc tys H0 LC LS h H) (ha : at_ h a t vs) (h1 : 100 ≤ t) (h2 : t < 200) :
    (vs ≠ [] → H0.size ≤ a) ∧ a < h.1 ∧ ∃ q : ClassId × FieldType, tys[t - 100]? = some q ∧ H[a]? = some (arrV q.1 vs.length (vp_V vs)) := by
  obtain ⟨-, -, -, -, -, h6⟩ := hR
  have h7 := h6 a (by rw [show h.2.2.2 a = (t, vs) from ha]; show t ≠ 0; omega)
  rw [show h.2.2.2 a = (t, vs) from ha] at h7
  obtain ⟨⟨g1, g2⟩, g3⟩ := h7
  refine ⟨fun hne => ?_, g1, ?_⟩
  · apply Nat.le_of_not_lt
    intro z
    rcases g2 z with g | g
    · have : (200 : Nat) ≤ t := g
      omega
    · exact hne g.2
  · unfold ce_at at g3
    rw [if_neg (show ¬ t < 100 by omega), if_pos (show t < 200 from h2)] at g3
    exact g3
theorem aks_at {tys : List (ClassId × FieldType)} (h : tys.map (fun q => q.2) = aks) {j : Nat} {q : ClassId × FieldType} (hq : tys[j]? = some q) : aks[j]? = some q.2 := by
  rw [← h, List.getElem?_map, hq]
  rfl
end
section
section SND
variable {p : Program} {l : Launch} {e : Env} {R : Room} {s : State} {m : MethodId} {args : Array Value} {below : List Frame} {meth : Method} {c : Code}
variable {D : va_G} {tys : List (ClassId × FieldType)} {H0 : Heap} {LC LS : Nat} {gc : Nat → Nat} {cc : ByteArray} {nL : Nat} {own : String} {h0 : AH} {dd : Nat} {Q : State → Prop}
/-- what stands while a method runs -/
def Cx (p : Program) (R : Room) (s : State) (m : MethodId) (args : Array Value) (c : Code) (D : va_G) (tys : List (ClassId × FieldType)) (H0 : Heap) (LC LS : Nat) (gc : Nat → Nat) (cc : ByteArray) (nL : Nat) (own : String) (h0 : AH) (dd : Nat) : Prop :=
  p.tables.exec = Jvm.exec ∧ c.code = cc ∧ c.maxLocals = nL ∧ s.vm.findClass own = some m.cls ∧ (∀ w ∈ GL, w.before args s = true) ∧ KX D tys gc H0 s ∧ Rl D vwc tys H0 LC LS h0 s.heap ∧ dd + 1 ≤ R.frames ∧ 31 * dd + 31 ≤ R.locals ∧ h0.2.1 ≤ R.cells ∧ h0.2.2.1 ≤ R.slots
/-- with the counters told from the picture, and what is left -/
theorem J_tg {h : AH} {H : Heap} {locs : List Loc} {cells slots : Nat} {g : JFrame} (r0 : Rl D vwc tys H0 LC LS h0 s.heap) (r : Rl D vwc tys H0 LC LS h H)
    (kk : h.2.1 ≤ h0.2.1 → h.2.2.1 ≤ h0.2.2.1 → W p l e R s m args below meth c H locs (h0.2.1 - h.2.1) (h0.2.2.1 - h.2.2.1) Q g) : W p l e R s m args below meth c H locs cells slots Q g := by
  intro T hT X
  obtain ⟨a1, a2, a3, a4, a5, a6⟩ := id r0
  obtain ⟨b1, b2, b3, b4, b5, b6⟩ := id r
  obtain ⟨x1, x2, x3, x4, x5, x6⟩ := id X.same
  have hh : (T.setVm s.vm).heap = H := hT
  rw [hh] at x2 x6
  have hsp := sl_split (B := H0.size) (H0 := s.heap) (H := H) (by omega) x2 (fun a c hc => by
    obtain ⟨c', q1, q2, q3, q4⟩ := x6 a c hc
    exact ⟨c', q1, q3⟩)
  exact J_tight r0 r (kk (by omega) (by omega)) T hT X
theorem J_get {h : AH} {a t k w idx pc : Nat} {vs rest : List Value} {v : Value} {ls : Array Slot} (C : Cx p R s m args c D tys H0 LC LS gc cc nL own h0 dd) (hat : at_ h a t vs) (hv : vs[k]? = some v) (hf : fld_ok own idx t k w = true) (hd : decode cc pc = .ok (.getfield idx, 3))
    (kk : J p l e R s m args below meth c D vwc tys H0 LC LS Q h (F0 m (pc + 3) ls (v :: rest))) : J p l e R s m args below meth c D vwc tys H0 LC LS Q h (F0 m pc ls (.ref a :: rest)) := by
  obtain ⟨hx, hb, hml, hown, hts, hK, -⟩ := C
  intro H locs cells slots hR hl
  unfold fld_ok at hf
  cases hc : vwc[t - 1]? with
  | none => rw [hc] at hf; cases hf
  | some r =>
    obtain ⟨C, T, N⟩ := r
    rw [hc] at hf
    simp only [Bool.and_eq_true, Bool.or_eq_true, Nat.ble_eq, Nat.blt_eq] at hf
    obtain ⟨⟨⟨f1, f2⟩, f3⟩, f4⟩ := hf
    obtain ⟨g1, g2, r', g3, g4, g5⟩ := ce_obj hR hat f1 f2
    cases hc.symm.trans g3
    have hin := (cls_spec hc).1
    have hP : va_P D vwc [(a, .inr (t - 1, vs))] H := fun k' q hk => by
      have hz : k' < 1 := (List.getElem?_eq_some_iff.mp hk).1
      rw [show k' = 0 by omega] at hk
      cases hk
      exact ⟨_, hc, g5⟩
    rcases f4 with f4 | ⟨f4, f5⟩
    · exact va_get (D := D) (ci := t - 1) (v := v) (C := C) (T := T) (N := N) hx hb hts hin hown hK.1 hP 0 rfl hc k f3 (hts _ (gl_in f4 rfl)) (fun _ h9 => h9) hv hd (kk H locs cells slots hR hl)
    · exact va_get (D := D) (ci := t - 1) (v := v) (C := C) (T := T) (N := N) hx hb hts hin hown hK.1 hP 0 rfl hc k f3 (hts _ (gl_in f4 rfl)) (u_same (hts _ (gl_in f5 rfl))) hv hd (kk H locs cells slots hR hl)
theorem pvk_ok {kd : Nat} {v : Value} {ty : FieldType} (h1 : pvk kd v) (h2 : kd_ok kd (some ty) = true) : narrow ty v = v ∧ fits ty v = true := by
  unfold kd_ok at h2
  split at h2 <;> first | (cases h2; done) | skip
  all_goals (rename_i e1; cases e1)
  all_goals (unfold pvk at h1; cases v <;> first | exact h1.elim | skip)
  all_goals first | exact ⟨rfl, rfl⟩ | (rcases h1 with h1 | h1 <;> subst h1 <;> exact ⟨by decide, by decide⟩)
theorem J_put {h : AH} {a t k w kd idx pc : Nat} {vs rest : List Value} {v : Value} {ls : Array Slot} {ini : Bool} (C : Cx p R s m args c D tys H0 LC LS gc cc nL own h0 dd) (hini : ini = true → meth.name = "<init>") (hat : at_ h a t vs) (hk : k < vs.length) (hpv : pvk kd v) (hf : fld_ok own idx t k w = true) (hf2 : fin_ok own ini t k kd = true) (hd : decode cc pc = .ok (.putfield idx, 3))
    (kk : J p l e R s m args below meth c D vwc tys H0 LC LS Q (ah_set h a (t, vs.set k v)) (F0 m (pc + 3) ls rest)) : J p l e R s m args below meth c D vwc tys H0 LC LS Q h (F0 m pc ls (v :: .ref a :: rest)) := by
  obtain ⟨hx, hb, hml, hown, hts, hK, -⟩ := C
  intro H locs cells slots hR hl
  unfold fld_ok at hf
  unfold fin_ok at hf2
  cases hc : vwc[t - 1]? with
  | none => rw [hc] at hf; cases hf
  | some r =>
    obtain ⟨C, T, N⟩ := r
    rw [hc] at hf hf2
    simp only [Bool.and_eq_true, Bool.or_eq_true, Nat.ble_eq, Nat.blt_eq, decide_eq_true_eq] at hf hf2
    obtain ⟨⟨⟨f1, f2⟩, f3⟩, f4⟩ := hf
    obtain ⟨k1, k2⟩ := hf2
    obtain ⟨g1, g2, r', g3, g4, g5⟩ := ce_obj hR hat f1 f2
    cases hc.symm.trans g3
    obtain ⟨hin, hty, hnm, -⟩ := cls_spec hc
    have hap := va_apart (own := own) hts hin (tyc (C, T, N)) hty hnm hK.1 hc
    obtain ⟨cell, q1, q2, q3, q4⟩ := g5
    obtain ⟨hS, hfc, kC, hkC, hkind⟩ := hK.1.1 (t - 1) _ hc
    obtain ⟨cf, kf, fi, f, hi, hsl⟩ := hS k f3
    have hdsc := hty k f3
    rw [hdsc] at k1
    obtain ⟨n1, n2⟩ := pvk_ok hpv k1
    have hlay := hts _ (hin _ (u_in_lay f3))
    have hst := (u_facts hfc hkC (u_lays hts hin f3) hi).1
    obtain ⟨ref, hlink, hsame⟩ : ∃ ref : String, (Cond.fieldLink own idx ref (T k).2.1 (T k).2.2.1).before args s = true ∧ ∀ x, s.fieldFound? (T k).1 (T k).2.1 (T k).2.2.1 = some x → s.fieldFound? ref (T k).2.1 (T k).2.2.1 = some x := by
      rcases f4 with f4 | ⟨f4, f5⟩
      · exact ⟨_, hts _ (gl_in f4 rfl), fun _ h => h⟩
      · exact ⟨_, hts _ (gl_in f4 rfl), u_same (hts _ (gl_in f5 rfl))⟩
    have fin : ∀ H' : Heap, H'[a]? = some (cell.setSlot f.slot v) → H'.size = H.size → (∀ q : Nat, q ≠ a → H'[q]? = H[q]?) → W p l e R s m args below meth c H' (locs ++ [⟨a, f.slot⟩]) cells slots Q (F0 m (pc + 3) ls rest) := by
      intro H' e1 e2 e3
      rw [hsl] at e1 ⊢
      refine kk H' _ cells slots (hR.set g1 g2 e2 e3 (fun c' hc' => ?_) ?_) (fun q hq => ?_)
      · cases q1.symm.trans hc'
        exact ⟨_, e1, k2_slotsz _ _ _⟩
      · unfold ce_at
        rw [if_pos (show t < 100 from f2)]
        exact ⟨_, hc, by show (vs.set k v).length = _; rw [List.length_set]; exact g4, t_OB.to (V := updV (vp_V vs) k v) ⟨_, e1, q2, q3, t_set q4 hap f3 v⟩ (fun j _ => vp_updV_set hk v j)⟩
      · rcases List.mem_append.mp hq with z | z
        · exact hl q z
        · rw [List.mem_singleton.mp z]
          exact g1
    by_cases hfin : (T k).2.2.2 = true
    · have k3 : ini = true ∧ (T k).1 = own := by
        rcases k2 with k2 | k2
        · rw [hfin] at k2; cases k2
        · exact k2
      unfold u_lay at hlay
      rw [if_pos hfin] at hlay
      have hcf : m.cls = cf := by
        obtain ⟨_, _, c', _, _, _, -, -, hf', -, -, -, hown2, -⟩ := Cond.laysFinal_spec hlay
        have e1 : c' = cf := by have := hi.symm.trans hf'; simp at this; exact this.1.symm
        rw [k3.2] at hown2
        rw [← e1]; exact Option.some.inj (hown.symm.trans hown2)
      have h6 := u_fits hfc hkC hkind (Or.inr hlay) hi hdsc n1 n2
      exact W.putFinK hx hb hown hlink (hsame _ hi) hst hcf (hini k3.1) (by rw [q2]; exact h6) q1 q3 (by rw [hsl]; exact k2_hasslot (q4 k f3)) rfl rfl hd fin
    · unfold u_lay at hlay
      rw [if_neg hfin] at hlay
      have h6 := u_store hfc hkC hkind hlay hi hdsc n1 n2
      exact W.putK hx hb (f := f) ⟨hown, hlink, ⟨_, _, _, hsame _ hi⟩, hst⟩ (by rw [q2]; exact h6) q1 q3 (by rw [hsl]; exact k2_hasslot (q4 k f3)) rfl rfl hd fin
theorem J_new {h : AH} {t w idx pc : Nat} {rest : List Value} {ls : Array Slot} (C : Cx p R s m args c D tys H0 LC LS gc cc nL own h0 dd) (hf : cl_ok own idx t w = true) (r1 : 1 ≤ h.2.1) (r2 : (dfl t).length ≤ h.2.2.1) (hd : decode cc pc = .ok (.new idx, 3))
    (kk : J p l e R s m args below meth c D vwc tys H0 LC LS Q (ah_new h (t, dfl t)) (F0 m (pc + 3) ls (.ref h.1 :: rest))) : J p l e R s m args below meth c D vwc tys H0 LC LS Q h (F0 m pc ls rest) := by
  obtain ⟨hx, hb, hml, hown, hts, hK, r0, -, -, hRc, hRs⟩ := C
  intro H locs cells slots hR hl
  unfold cl_ok at hf
  cases hc : vwc[t - 1]? with
  | none => rw [hc] at hf; cases hf
  | some r =>
    rw [hc] at hf
    obtain ⟨C, T, N⟩ := r
    simp only [Bool.and_eq_true, Nat.ble_eq, Nat.blt_eq] at hf
    obtain ⟨⟨f1, f2⟩, f3⟩ := hf
    obtain ⟨hin, hty, hnm, hins, hini, hlen, hdf⟩ := cls_spec hc
    rw [show t - 1 + 1 = t by omega] at hlen hdf
    have hlen' : (dfl t).length = N := hlen
    have hKn := hK.1.1 (t - 1) _ hc
    refine J_tg r0 hR (fun z1 z2 => ?_)
    refine W.newcK hx hb hown (hts _ (gl_in f3 rfl)) (hts _ hins) (hts _ hini) rfl hd (by omega) (by show _ + N ≤ _; omega) hKn.2.1 (hR.1) fun H1 kC hkC e1 s1 o1 => ?_
    have e1' : H1[H.size]? = some (blank (D.1 (t - 1)) kC) := by rw [hR.1]; exact e1
    have hkS : (blank (D.1 (t - 1)) kC).slots.size = N := by
      obtain ⟨cC', kC', i1, i2, i3, i4⟩ := Cond.instantiable_spec (hts _ hins)
      cases hKn.2.1.symm.trans i1
      cases hkC.symm.trans i2
      simp only [blank, Array.size_map]
      exact i4.2.2
    refine kk H1 locs _ _ (hR.new (by rw [hR.1]; exact s1) e1' (fun q hq => o1 q (by rw [← hR.1]; exact hq)) (by rw [hkS]; exact hlen'.symm) ?_ r1 r2) hl
    unfold ce_at
    rw [if_pos (show t < 100 from f2)]
    exact ⟨_, hc, hlen', (u_born (tyc (C, T, N)) hts hin hKn hkC e1' hty).to hdf⟩
end SND
end
section
section SND3
variable {p : Program} {l : Launch} {e : Env} {R : Room} {s : State} {m : MethodId} {args : Array Value} {below : List Frame} {meth : Method} {c : Code}
variable {D : va_G} {tys : List (ClassId × FieldType)} {H0 : Heap} {LC LS : Nat} {gc : Nat → Nat} {cc : ByteArray} {nL : Nat} {own : String} {h0 : AH} {dd : Nat} {Q : State → Prop}
theorem in_ix {i : Int32} {n : Nat} (h1 : ¬ i < 0) (h2 : i.toNatClampNeg < n) : ¬ (i < 0 ∨ n ≤ i.toNatClampNeg) := fun z => z.elim h1 (fun z => by omega)
theorem vp_read {vs : List Value} {j : Nat} {v : Value} (h : vs[j]? = some v) : vp_V vs j = v := by
  unfold vp_V
  rw [List.getD_eq_getElem?_getD, h]
  rfl
/-- an array that is read: its class, its contents -/
theorem J_arr {h : AH} {H : Heap} {a t : Nat} {vs : List Value} (hK : KX D tys gc H0 s) (hR : Rl D vwc tys H0 LC LS h H) (ha : at_ h a t vs) (h1 : 100 ≤ t) (h2 : t < 200) :
    ∃ q : ClassId × FieldType, tys[t - 100]? = some q ∧ aks[t - 100]? = some q.2 ∧ H[a]? = some (arrV q.1 vs.length (vp_V vs)) ∧ s.isArrayOf (arrV q.1 vs.length (vp_V vs)) q.2 ∧ va_RA s q.1 q.2 := by
  obtain ⟨-, -, q, g1, g2⟩ := ce_arr hR ha h1 h2
  exact ⟨q, g1, aks_at hK.2.1 g1, g2, (hK.1.2 _ _ g1).1 _ _, (hK.1.2 _ _ g1).2⟩
/-- a place of an array is written -/
theorem J_wr {h : AH} {H H1 : Heap} {a t j : Nat} {vs : List Value} {v : Value} {locs : List Loc} {q : ClassId × FieldType} (hR : Rl D vwc tys H0 LC LS h H) (ha : at_ h a t vs) (h1 : 100 ≤ t) (h2 : t < 200) (hj : j < vs.length) (hq : tys[t - 100]? = some q) (hl : ∀ x ∈ locs, H0.size ≤ x.base)
    (e1 : H1[a]? = some ((arrV q.1 vs.length (vp_V vs)).setSlot j v)) (e2 : H1.size = H.size) (e3 : ∀ x : Nat, x ≠ a → H1[x]? = H[x]?) : Rl D vwc tys H0 LC LS (ah_set h a (t, vs.set j v)) H1 ∧ ∀ x ∈ locs ++ [(⟨a, j⟩ : Loc)], H0.size ≤ x.base := by
  obtain ⟨g1, g2, q', g3, g4⟩ := ce_arr hR ha h1 h2
  cases hq.symm.trans g3
  have g1 := g1 (fun z => by rw [z] at hj; exact absurd hj (Nat.not_lt_zero _))
  rw [arrV_store] at e1
  refine ⟨hR.set g1 g2 e2 e3 (fun c' hc' => ?_) ?_, fun x hx => ?_⟩
  · cases g4.symm.trans hc'
    exact ⟨_, e1, by rw [arrV_size, arrV_size]⟩
  · unfold ce_at
    rw [if_neg (show ¬ t < 100 by omega), if_pos (show t < 200 from h2)]
    refine ⟨q, hq, e1.trans ?_⟩
    show some (arrV q.1 vs.length (updV (vp_V vs) j v)) = some (arrV q.1 (vs.set j v).length (vp_V (vs.set j v)))
    rw [List.length_set]
    congr 2
    funext z
    exact vp_updV_set hj v z
  · rcases List.mem_append.mp hx with z | z
    · exact hl x z
    · rw [List.mem_singleton.mp z]
      exact g1
/-- the script -/
theorem J_scr {h : AH} {H : Heap} {vs : List Value} (hK : KX D tys gc H0 s) (hR : Rl D vwc tys H0 LC LS h H) (ha : at_ h (gc 2) 200 vs) : ∃ scr : Cell, H[gc 2]? = some scr ∧ s.isArrayOf scr .int ∧ scr.vm ≠ .unknown ∧ scr.slots = vs.toArray := by
  obtain ⟨-, -, -, -, -, -, ⟨scr, k1, k2, k3⟩, -⟩ := hK
  obtain ⟨-, -, -, -, h5, h6⟩ := hR
  have h7 := (h6 (gc 2) (by rw [show h.2.2.2 (gc 2) = (200, vs) from ha]; show (200 : Nat) ≠ 0; decide)).2
  rw [show h.2.2.2 (gc 2) = (200, vs) from ha] at h7
  unfold ce_at at h7
  rw [if_neg (show ¬ (200 : Nat) < 100 by decide), if_neg (show ¬ (200 : Nat) < 200 by decide)] at h7
  obtain ⟨scr', g1, g2⟩ := h7
  have e : H[gc 2]? = some scr := (h5 _ (Array.getElem?_eq_some_iff.mp k1).1).trans k1
  cases e.symm.trans g1
  exact ⟨scr, e, k2, k3, g2 rfl⟩
theorem J_alen {h : AH} {a t pc : Nat} {vs rest : List Value} {ls : Array Slot} (C : Cx p R s m args c D tys H0 LC LS gc cc nL own h0 dd) (hat : at_ h a t vs) (ht : (100 ≤ t ∧ t < 200) ∨ (t = 200 ∧ a = gc 2) ∨ (t = 201 ∧ a = gc 1 ∧ vs = [])) (hd : decode cc pc = .ok (.arraylength, 1))
    (kk : J p l e R s m args below meth c D vwc tys H0 LC LS Q h (F0 m (pc + 1) ls (.int (Int32.ofNat vs.length) :: rest))) : J p l e R s m args below meth c D vwc tys H0 LC LS Q h (F0 m pc ls (.ref a :: rest)) := by
  obtain ⟨hx, hb, hml, hown, hts, hK, -⟩ := C
  intro H locs cells slots hR hl
  rcases ht with ⟨h1, h2⟩ | ⟨rfl, rfl⟩ | ⟨rfl, rfl, rfl⟩
  · obtain ⟨q, q1, q2, q3, q4, q5⟩ := J_arr hK hR hat h1 h2
    exact W.alen hx hb q3 q4 (by rw [arrV_size]) rfl rfl hd (kk H locs cells slots hR hl)
  · obtain ⟨scr, q1, q2, q3, q4⟩ := J_scr hK hR hat
    exact W.alen hx hb q1 q2 (by rw [q4]; rfl) rfl rfl hd (kk H locs cells slots hR hl)
  · obtain ⟨-, -, -, -, -, -, -, cl0, k1, k2, k3⟩ := hK
    have e : H[gc 1]? = some cl0 := (hR.2.2.2.2.1 _ (Array.getElem?_eq_some_iff.mp k1).1).trans k1
    exact W.alen hx hb e k2 k3 rfl rfl hd (kk H locs cells slots hR hl)
theorem J_iald {h : AH} {a t pc : Nat} {i x : Int32} {vs rest : List Value} {ls : Array Slot} (C : Cx p R s m args c D tys H0 LC LS gc cc nL own h0 dd) (hat : at_ h a t vs) (ht : t = 104 ∨ (t = 200 ∧ a = gc 2)) (hi : ¬ i < 0) (hv : vs[i.toNatClampNeg]? = some (.int x)) (hd : decode cc pc = .ok (.iaload, 1))
    (kk : J p l e R s m args below meth c D vwc tys H0 LC LS Q h (F0 m (pc + 1) ls (.int x :: rest))) : J p l e R s m args below meth c D vwc tys H0 LC LS Q h (F0 m pc ls (.int i :: .ref a :: rest)) := by
  obtain ⟨hx, hb, hml, hown, hts, hK, -⟩ := C
  intro H locs cells slots hR hl
  have hlt := (List.getElem?_eq_some_iff.mp hv).1
  rcases ht with rfl | ⟨rfl, rfl⟩
  · obtain ⟨q, q1, q2, q3, q4, q5⟩ := J_arr hK hR hat (by decide) (by decide)
    have hq : q.2 = .int := (Option.some.inj (show some FieldType.int = some q.2 from q2)).symm
    rw [hq] at q4
    exact W.iald (v := .int x) hx hb q3 q4 (fun z => by cases z) (by rw [arrV_size]; exact in_ix hi hlt) (by rw [arrV_read _ _ hlt, vp_read hv]) rfl rfl hd (kk H locs cells slots hR hl)
  · obtain ⟨scr, q1, q2, q3, q4⟩ := J_scr hK hR hat
    exact W.iald (v := .int x) hx hb q1 q2 q3 (by rw [q4]; exact in_ix hi (by simpa using hlt)) (by rw [q4]; simpa using hv) rfl rfl hd (kk H locs cells slots hR hl)
theorem J_zald {h : AH} {a pc : Nat} {i x : Int32} {vs rest : List Value} {ls : Array Slot} (C : Cx p R s m args c D tys H0 LC LS gc cc nL own h0 dd) (hat : at_ h a 105 vs) (hi : ¬ i < 0) (hv : vs[i.toNatClampNeg]? = some (.int x)) (hd : decode cc pc = .ok (.baload, 1))
    (kk : J p l e R s m args below meth c D vwc tys H0 LC LS Q h (F0 m (pc + 1) ls (.int x :: rest))) : J p l e R s m args below meth c D vwc tys H0 LC LS Q h (F0 m pc ls (.int i :: .ref a :: rest)) := by
  obtain ⟨hx, hb, hml, hown, hts, hK, -⟩ := C
  intro H locs cells slots hR hl
  have hlt := (List.getElem?_eq_some_iff.mp hv).1
  obtain ⟨q, q1, q2, q3, q4, q5⟩ := J_arr hK hR hat (by decide) (by decide)
  have hq : q.2 = .boolean := (Option.some.inj (show some FieldType.boolean = some q.2 from q2)).symm
  rw [hq] at q4
  exact W.zald (v := .int x) hx hb q3 q4 (fun z => by cases z) (by rw [arrV_size]; exact in_ix hi hlt) (by rw [arrV_read _ _ hlt, vp_read hv]) rfl rfl hd (kk H locs cells slots hR hl)
theorem J_iast {h : AH} {a pc : Nat} {i x : Int32} {vs rest : List Value} {ls : Array Slot} (C : Cx p R s m args c D tys H0 LC LS gc cc nL own h0 dd) (hat : at_ h a 104 vs) (hi : ¬ i < 0) (hlt : i.toNatClampNeg < vs.length) (hd : decode cc pc = .ok (.iastore, 1))
    (kk : J p l e R s m args below meth c D vwc tys H0 LC LS Q (ah_set h a (104, vs.set i.toNatClampNeg (.int x))) (F0 m (pc + 1) ls rest)) : J p l e R s m args below meth c D vwc tys H0 LC LS Q h (F0 m pc ls (.int x :: .int i :: .ref a :: rest)) := by
  obtain ⟨hx, hb, hml, hown, hts, hK, -⟩ := C
  intro H locs cells slots hR hl
  obtain ⟨q, q1, q2, q3, q4, q5⟩ := J_arr hK hR hat (by decide) (by decide)
  have hq : q.2 = .int := (Option.some.inj (show some FieldType.int = some q.2 from q2)).symm
  rw [hq] at q4
  refine W.iast hx hb q3 q4 (fun z => by cases z) (by rw [arrV_size]; exact in_ix hi hlt) rfl rfl hd fun H1 e1 e2 e3 => ?_
  obtain ⟨w1, w2⟩ := J_wr hR hat (by decide) (by decide) hlt q1 hl e1 e2 e3
  exact kk H1 _ cells slots w1 w2
theorem J_zast {h : AH} {a pc : Nat} {i x : Int32} {vs rest : List Value} {ls : Array Slot} (C : Cx p R s m args c D tys H0 LC LS gc cc nL own h0 dd) (hat : at_ h a 105 vs) (hi : ¬ i < 0) (hlt : i.toNatClampNeg < vs.length) (hx01 : x = 0 ∨ x = 1) (hd : decode cc pc = .ok (.bastore, 1))
    (kk : J p l e R s m args below meth c D vwc tys H0 LC LS Q (ah_set h a (105, vs.set i.toNatClampNeg (.int x))) (F0 m (pc + 1) ls rest)) : J p l e R s m args below meth c D vwc tys H0 LC LS Q h (F0 m pc ls (.int x :: .int i :: .ref a :: rest)) := by
  obtain ⟨hx, hb, hml, hown, hts, hK, -⟩ := C
  intro H locs cells slots hR hl
  obtain ⟨q, q1, q2, q3, q4, q5⟩ := J_arr hK hR hat (by decide) (by decide)
  have hq : q.2 = .boolean := (Option.some.inj (show some FieldType.boolean = some q.2 from q2)).symm
  rw [hq] at q4
  refine W.zast hx hb q3 q4 (fun z => by cases z) (by rw [arrV_size]; exact in_ix hi hlt) rfl rfl hd fun H1 e1 e2 e3 => ?_
  have hn : narrow .boolean (.int x) = .int x := by rcases hx01 with z | z <;> subst z <;> decide
  rw [hn] at e1
  obtain ⟨w1, w2⟩ := J_wr hR hat (by decide) (by decide) hlt q1 hl e1 e2 e3
  exact kk H1 _ cells slots w1 w2
theorem isRA_lt {t : Nat} (h : isRA t = true) : 100 ≤ t ∧ t < 104 := by
  unfold isRA at h
  split at h <;> first | omega | cases h
/-- the component of an array of references: its class -/
theorem aks_ref {t : Nat} {ty : FieldType} (ht : 100 ≤ t ∧ t < 104) (h : aks[t - 100]? = some ty) : ∃ C : String, ty = .object C := by
  obtain ⟨k, rfl⟩ : ∃ k, t = 100 + k := ⟨t - 100, by omega⟩
  rw [show 100 + k - 100 = k by omega] at h
  have hk : k = 0 ∨ k = 1 ∨ k = 2 ∨ k = 3 := by omega
  rcases hk with rfl | rfl | rfl | rfl <;> exact ⟨_, (Option.some.inj h).symm⟩
theorem J_aald {h : AH} {a t pc b : Nat} {i : Int32} {vs rest : List Value} {ls : Array Slot} (C : Cx p R s m args c D tys H0 LC LS gc cc nL own h0 dd) (hat : at_ h a t vs) (ht : isRA t = true) (hi : ¬ i < 0) (hv : vs[i.toNatClampNeg]? = some (.ref b)) (hd : decode cc pc = .ok (.aaload, 1))
    (kk : J p l e R s m args below meth c D vwc tys H0 LC LS Q h (F0 m (pc + 1) ls (.ref b :: rest))) : J p l e R s m args below meth c D vwc tys H0 LC LS Q h (F0 m pc ls (.int i :: .ref a :: rest)) := by
  obtain ⟨hx, hb, hml, hown, hts, hK, -⟩ := C
  intro H locs cells slots hR hl
  have hlt := (List.getElem?_eq_some_iff.mp hv).1
  have htt := isRA_lt ht
  obtain ⟨q, q1, q2, q3, q4, q5⟩ := J_arr hK hR hat htt.1 (by omega)
  have hty : q.2.isReference = true := by
    obtain ⟨C, hC⟩ := aks_ref htt q2
    rw [hC]
    rfl
  exact W.aald (v := .ref b) hx hb q3 q4 hty (fun z => by cases z) (by rw [arrV_size]; exact in_ix hi hlt) (by rw [arrV_read _ _ hlt, vp_read hv]) rfl rfl hd (kk H locs cells slots hR hl)
end SND3
end
section
section SND4
variable {p : Program} {l : Launch} {e : Env} {R : Room} {s : State} {m : MethodId} {args : Array Value} {below : List Frame} {meth : Method} {c : Code}
variable {D : va_G} {tys : List (ClassId × FieldType)} {H0 : Heap} {LC LS : Nat} {gc : Nat → Nat} {cc : ByteArray} {nL : Nat} {own : String} {h0 : AH} {dd : Nat} {Q : State → Prop}
theorem J_aastN {h : AH} {a t pc : Nat} {i : Int32} {vs rest : List Value} {ls : Array Slot} (C : Cx p R s m args c D tys H0 LC LS gc cc nL own h0 dd) (hat : at_ h a t vs) (ht : isRA t = true) (hi : ¬ i < 0) (hlt : i.toNatClampNeg < vs.length) (hd : decode cc pc = .ok (.aastore, 1))
    (kk : J p l e R s m args below meth c D vwc tys H0 LC LS Q (ah_set h a (t, vs.set i.toNatClampNeg .null)) (F0 m (pc + 1) ls rest)) : J p l e R s m args below meth c D vwc tys H0 LC LS Q h (F0 m pc ls (.null :: .int i :: .ref a :: rest)) := by
  obtain ⟨hx, hb, hml, hown, hts, hK, -⟩ := C
  intro H locs cells slots hR hl
  have htt := isRA_lt ht
  obtain ⟨q, q1, q2, q3, q4, q5⟩ := J_arr hK hR hat htt.1 (by omega)
  obtain ⟨C, hC⟩ := aks_ref htt q2
  rw [hC] at q4
  refine va_WaastN hx hb q3 q4 (fun z => by cases z) (by rw [arrV_size]; exact in_ix hi hlt) rfl rfl hd fun H1 e1 e2 e3 => ?_
  obtain ⟨w1, w2⟩ := J_wr hR hat htt.1 (by omega) hlt q1 hl e1 e2 e3
  exact kk H1 _ cells slots w1 w2
/-- an object of a class that may lie in an array of the kind -/
theorem asg_ok {t tb : Nat} (h : asg t tb = true) : 100 ≤ t ∧ t < 104 ∧ 1 ≤ tb ∧ tb < 100 ∧ ∃ (A C : String) (T : u_T) (N : Nat), aks[t - 100]? = some (.object A) ∧ vwc[tb - 1]? = some (C, T, N) ∧ (A = C ∨ Cond.castable C A ∈ lw_tbl) := by
  unfold asg at h
  split at h
  · exact ⟨by decide, by decide, by decide, by decide, _, _, _, _, rfl, rfl, Or.inl rfl⟩
  · exact ⟨by decide, by decide, by decide, by decide, _, _, _, _, rfl, rfl, Or.inl rfl⟩
  · exact ⟨by decide, by decide, by decide, by decide, _, _, _, _, rfl, rfl, Or.inl rfl⟩
  · exact ⟨by decide, by decide, by decide, by decide, _, _, _, _, rfl, rfl, Or.inr (List.mem_of_getElem? (i := 1020) (by decide +kernel))⟩
  · exact ⟨by decide, by decide, by decide, by decide, _, _, _, _, rfl, rfl, Or.inr (List.mem_of_getElem? (i := 1024) (by decide +kernel))⟩
  · exact ⟨by decide, by decide, by decide, by decide, _, _, _, _, rfl, rfl, Or.inr (List.mem_of_getElem? (i := 1023) (by decide +kernel))⟩
  · exact ⟨by decide, by decide, by decide, by decide, _, _, _, _, rfl, rfl, Or.inr (List.mem_of_getElem? (i := 1022) (by decide +kernel))⟩
  · cases h
/-- what such an object is to the machine -/
theorem asg_any {h : AH} {H : Heap} {t tb b : Nat} {ws : List Value} (hK : KX D tys gc H0 s) (hR : Rl D vwc tys H0 LC LS h H) (hab : at_ h b tb ws) (ht : asg t tb = true) : ∃ A : String, aks[t - 100]? = some (.object A) ∧ va_Any A s H b := by
  obtain ⟨t1, t2, t3, t4, A, C, T, N, a1, a2, a3⟩ := asg_ok ht
  obtain ⟨g1, g2, r', g3, g4, cell, q1, q2, q3, q4⟩ := ce_obj hR hab t3 t4
  have hcl := (hK.1.1 _ _ a2).2
  obtain ⟨f1, kC, f2, f3⟩ := id hcl
  refine ⟨A, a1, cell, q1, by rw [q3]; rfl, ⟨kC, by rw [q2]; exact f2⟩, fun comp hcomp => ?_⟩
  rw [q2]
  rcases a3 with rfl | a3
  · cases f1.symm.trans hcomp
    exact va_assign hcl
  · obtain ⟨c0, t0, i1, i2, i3⟩ := Cond.castable_spec (va_Nw.use (A := #[]) rfl (hK.2.2.1 _ a3 rfl))
    cases f1.symm.trans i1
    cases hcomp.symm.trans i2
    exact i3
theorem J_aast {h : AH} {a t tb b pc : Nat} {i : Int32} {vs ws rest : List Value} {ls : Array Slot} (C : Cx p R s m args c D tys H0 LC LS gc cc nL own h0 dd) (hat : at_ h a t vs) (hab : at_ h b tb ws) (ht : asg t tb = true) (hi : ¬ i < 0) (hlt : i.toNatClampNeg < vs.length) (hd : decode cc pc = .ok (.aastore, 1))
    (kk : J p l e R s m args below meth c D vwc tys H0 LC LS Q (ah_set h a (t, vs.set i.toNatClampNeg (.ref b))) (F0 m (pc + 1) ls rest)) : J p l e R s m args below meth c D vwc tys H0 LC LS Q h (F0 m pc ls (.ref b :: .int i :: .ref a :: rest)) := by
  obtain ⟨hx, hb, hml, hown, hts, hK, -⟩ := C
  intro H locs cells slots hR hl
  obtain ⟨t1, t2, -⟩ := asg_ok ht
  obtain ⟨q, q1, q2, q3, q4, q5⟩ := J_arr hK hR hat t1 (by omega)
  obtain ⟨A, a1, cv, v1, v2, ⟨kv, v3⟩, v4⟩ := asg_any hK hR hab ht
  have hq : q.2 = .object A := Option.some.inj (q2.symm.trans a1)
  rw [hq] at q5
  obtain ⟨kA, comp, r1, r2, r3, -⟩ := q5
  obtain ⟨kE, hkE, -⟩ := Vm.findClass_spec r3
  refine W.aast hx hb q3 (fun z h => by cases h) (fun h => by cases h) r1 r2 rfl hkE ⟨hi, by rw [arrV_size]; exact hlt⟩ v1 (fun z h => by rw [h] at v2; cases v2) v3 (v4 comp r3) rfl rfl hd fun H1 e1 e2 e3 => ?_
  obtain ⟨w1, w2⟩ := J_wr hR hat t1 (by omega) hlt q1 hl e1 e2 e3
  exact kk H1 _ cells slots w1 w2
theorem tys_at {j : Nat} {ty : FieldType} (h : tys.map (fun q => q.2) = aks) (hj : aks[j]? = some ty) : ∃ q : ClassId × FieldType, tys[j]? = some q ∧ q.2 = ty := by
  rw [← h, List.getElem?_map] at hj
  cases hq : tys[j]? with
  | none => rw [hq] at hj; cases hj
  | some q => rw [hq] at hj; exact ⟨q, rfl, Option.some.inj hj⟩
theorem arrV_rep (cA : ClassId) (N : Nat) (v : Value) : arrV cA N (fun _ => v) = arrV cA (List.replicate N v).length (vp_V (List.replicate N v)) := by
  rw [List.length_replicate]
  unfold arrV
  congr 2
  funext j
  unfold vp_V
  rw [List.getD_eq_getElem?_getD, List.getElem?_replicate, if_pos j.2]
  rfl
theorem J_made {h : AH} {H H1 : Heap} {t N : Nat} {v : Value} {q : ClassId × FieldType} (hR : Rl D vwc tys H0 LC LS h H) (h1 : 100 ≤ t) (h2 : t < 200) (hq : tys[t - 100]? = some q) (r1 : 1 ≤ h.2.1) (r2 : N ≤ h.2.2.1)
    (e1 : H1[H.size]? = some (arrV q.1 N (fun _ => v))) (z1 : H1.size = H.size + 1) (o1 : ∀ x : Nat, x < H.size → H1[x]? = H[x]?) : Rl D vwc tys H0 LC LS (ah_new h (t, List.replicate N v)) H1 := by
  refine hR.new z1 e1 o1 (by rw [arrV_size]; exact List.length_replicate.symm) ?_ r1 (by show (List.replicate N v).length ≤ _; rw [List.length_replicate]; exact r2)
  unfold ce_at
  rw [if_neg (show ¬ t < 100 by omega), if_pos (show t < 200 from h2)]
  exact ⟨q, hq, by rw [e1, arrV_rep]⟩
theorem ac_int0 : lw_is 816 (Cond.arrayClass FieldType.int) = true := by decide +kernel
theorem ac_bool0 : lw_is 817 (Cond.arrayClass FieldType.boolean) = true := by decide +kernel
theorem ac_int : Cond.arrayClass FieldType.int ∈ GL := gl_in ac_int0 rfl
theorem ac_bool : Cond.arrayClass FieldType.boolean ∈ GL := gl_in ac_bool0 rfl
theorem J_newa {h : AH} {t pc : Nat} {aty : ArrayType} {x : Int32} {rest : List Value} {ls : Array Slot} (C : Cx p R s m args c D tys H0 LC LS gc cc nL own h0 dd) (hty : (aty = .int ∧ t = 104) ∨ (aty = .boolean ∧ t = 105)) (hn : ¬ x < 0) (r1 : 1 ≤ h.2.1) (r2 : x.toNatClampNeg ≤ h.2.2.1) (r3 : x.toNatClampNeg ≤ 100000) (hd : decode cc pc = .ok (.newarray aty, 2))
    (kk : J p l e R s m args below meth c D vwc tys H0 LC LS Q (ah_new h (t, List.replicate x.toNatClampNeg (.int 0))) (F0 m (pc + 2) ls (.ref h.1 :: rest))) : J p l e R s m args below meth c D vwc tys H0 LC LS Q h (F0 m pc ls (.int x :: rest)) := by
  obtain ⟨hx, hb, hml, hown, hts, hK, r0, -, -, hRc, hRs⟩ := C
  intro H locs cells slots hR hl
  refine J_tg r0 hR (fun z1 z2 => ?_)
  rcases hty with ⟨rfl, rfl⟩ | ⟨rfl, rfl⟩
  · obtain ⟨q, q1, q2⟩ := tys_at hK.2.1 (show aks[104 - 100]? = some .int from rfl)
    have hra := (hK.1.2 _ _ q1).2
    rw [q2] at hra
    refine va_newaK (atype := .int) hx hb (hts _ ac_int) rfl hd rfl hn rfl (by show _ * 4 ≤ _; omega) (by omega) (by omega) hR.1 fun H1 cA e1 s1 o1 ha hfc => ?_
    have hcA : cA = q.1 := Option.some.inj (hfc.symm.trans hra)
    subst hcA
    exact kk H1 locs _ _ (J_made hR (by decide) (by decide) q1 r1 r2 (by rw [hR.1]; exact e1) (by rw [hR.1]; exact s1) (fun y hy => o1 y (by rw [← hR.1]; exact hy))) hl
  · obtain ⟨q, q1, q2⟩ := tys_at hK.2.1 (show aks[105 - 100]? = some .boolean from rfl)
    have hra := (hK.1.2 _ _ q1).2
    rw [q2] at hra
    refine va_newaK (atype := .boolean) hx hb (hts _ ac_bool) rfl hd rfl hn rfl (by show _ * 1 ≤ _; omega) (by omega) (by omega) hR.1 fun H1 cA e1 s1 o1 ha hfc => ?_
    have hcA : cA = q.1 := Option.some.inj (hfc.symm.trans hra)
    subst hcA
    exact kk H1 locs _ _ (J_made hR (by decide) (by decide) q1 r1 r2 (by rw [hR.1]; exact e1) (by rw [hR.1]; exact s1) (fun y hy => o1 y (by rw [← hR.1]; exact hy))) hl
theorem J_anew {h : AH} {t w idx pc : Nat} {A : String} {x : Int32} {rest : List Value} {ls : Array Slot} (C : Cx p R s m args c D tys H0 LC LS gc cc nL own h0 dd) (h1 : 100 ≤ t) (h2 : t < 104) (hA : aks[t - 100]? = some (.object A)) (hw : lw_is w (.classLink own idx A) = true) (hn : ¬ x < 0) (r1 : 1 ≤ h.2.1) (r2 : x.toNatClampNeg ≤ h.2.2.1) (r3 : x.toNatClampNeg ≤ 100000) (hd : decode cc pc = .ok (.anewarray idx, 3))
    (kk : J p l e R s m args below meth c D vwc tys H0 LC LS Q (ah_new h (t, List.replicate x.toNatClampNeg .null)) (F0 m (pc + 3) ls (.ref h.1 :: rest))) : J p l e R s m args below meth c D vwc tys H0 LC LS Q h (F0 m pc ls (.int x :: rest)) := by
  obtain ⟨hx, hb, hml, hown, hts, hK, r0, -, -, hRc, hRs⟩ := C
  intro H locs cells slots hR hl
  refine J_tg r0 hR (fun z1 z2 => ?_)
  obtain ⟨q, q1, q2⟩ := tys_at hK.2.1 hA
  have hra := (hK.1.2 _ _ q1).2
  rw [q2] at hra
  have hao : Cond.arrayOver (.object A) ∈ lw_tbl := by
    have hk : t = 100 ∨ t = 101 ∨ t = 102 ∨ t = 103 := by omega
    rcases hk with rfl | rfl | rfl | rfl
    · rw [← FieldType.object.inj (Option.some.inj hA)]; exact List.mem_of_getElem? (i := 78) (by decide +kernel)
    · rw [← FieldType.object.inj (Option.some.inj hA)]; exact List.mem_of_getElem? (i := 80) (by decide +kernel)
    · rw [← FieldType.object.inj (Option.some.inj hA)]; exact List.mem_of_getElem? (i := 82) (by decide +kernel)
    · rw [← FieldType.object.inj (Option.some.inj hA)]; exact List.mem_of_getElem? (i := 332) (by decide +kernel)
  obtain ⟨kA0, comp0, r1', r2', r3', r4'⟩ := hra
  refine W.anew hx hb hown (hts _ (gl_in hw rfl)) (va_AO.use (hK.2.2.2.1 A hao)) rfl hd rfl hn (by omega) (by omega) (by omega) fun cA kA comp f1 f2 f3 f4 => ?_
  have hcA : cA = q.1 := Option.some.inj (f1.symm.trans r4')
  subst hcA
  have hsz : h.1 = H.size := hR.1.symm
  rw [hsz] at kk
  refine kk _ locs _ _ (J_made (q := q) hR h1 (by omega) q1 r1 r2 (by rw [Array.getElem?_push_size, ← arrV_new]) (by rw [Array.size_push]) (fun y hy => by rw [Array.getElem?_push, if_neg (Nat.ne_of_lt hy)])) hl
theorem J_cast {h : AH} {a t w cw idx pc : Nat} {vs rest : List Value} {ls : Array Slot} (C : Cx p R s m args c D tys H0 LC LS gc cc nL own h0 dd) (hat : at_ h a t vs) (hf : cl_ok own idx t w = true) (hcw : (match vwc[t - 1]? with | some (C, _, _) => lw_is cw (.castable C C) | none => false) = true) (hd : decode cc pc = .ok (.checkcast idx, 3))
    (kk : J p l e R s m args below meth c D vwc tys H0 LC LS Q h (F0 m (pc + 3) ls (.ref a :: rest))) : J p l e R s m args below meth c D vwc tys H0 LC LS Q h (F0 m pc ls (.ref a :: rest)) := by
  obtain ⟨hx, hb, hml, hown, hts, hK, -⟩ := C
  intro H locs cells slots hR hl
  unfold cl_ok at hf
  cases hc : vwc[t - 1]? with
  | none => rw [hc] at hf; cases hf
  | some r =>
    rw [hc] at hf hcw
    obtain ⟨C, T, N⟩ := r
    simp only [Bool.and_eq_true, Nat.ble_eq, Nat.blt_eq] at hf
    obtain ⟨⟨f1, f2⟩, f3⟩ := hf
    obtain ⟨g1, g2, r', g3, g4, cell, q1, q2, q3, q4⟩ := ce_obj hR hat f1 f2
    cases hc.symm.trans g3
    exact va_castY hx hb hown (hts _ (gl_in f3 rfl)) (hK.2.2.1 _ (tb_in hcw) rfl) ⟨cell, q1, by rw [q3]; rfl, by rw [q2]; exact (hK.1.1 _ _ hc).2.1⟩ hd (kk H locs cells slots hR hl)
theorem J_gets {h : AH} {w idx pc : Nat} {rest : List Value} {ls : Array Slot} (C : Cx p R s m args c D tys H0 LC LS gc cc nL own h0 dd) (hw : lw_is w (.fieldLink own idx "java/util/ArrayList" "DEFAULTCAPACITY_EMPTY_ELEMENTDATA" "[Ljava/lang/Object;") = true) (hd : decode cc pc = .ok (.getstatic idx, 3))
    (kk : J p l e R s m args below meth c D vwc tys H0 LC LS Q h (F0 m (pc + 3) ls (.ref (gc 1) :: rest))) : J p l e R s m args below meth c D vwc tys H0 LC LS Q h (F0 m pc ls rest) := by
  obtain ⟨hx, hb, hml, hown, hts, hK, -⟩ := C
  intro H locs cells slots hR hl
  obtain ⟨-, -, -, -, -, ⟨cf, kf, fi, f, za, zc, z1, z2, z3, z4, z5, z6, z7, z8⟩, -⟩ := hK
  have e : H[za]? = some zc := (hR.2.2.2.2.1 za (Array.getElem?_eq_some_iff.mp z5).1).trans z5
  exact W.gets hx hb hown (hts _ (gl_in hw rfl)) z1 z2 z3 z4 e (fun q => by rw [q] at z6; cases z6) z7 rfl hd (kk H locs cells slots hR hl)
theorem J_ldcM {h : AH} {w idx pc : Nat} {rest : List Value} {ls : Array Slot} (C : Cx p R s m args c D tys H0 LC LS gc cc nL own h0 dd) (hw : lw_is w (.classLink own idx "[Ljava/lang/Object;") = true) (hd : decode cc pc = .ok (.ldc idx, 2))
    (kk : J p l e R s m args below meth c D vwc tys H0 LC LS Q h (F0 m (pc + 2) ls (.ref (gc 0) :: rest))) : J p l e R s m args below meth c D vwc tys H0 LC LS Q h (F0 m pc ls rest) := by
  obtain ⟨hx, hb, hml, hown, hts, hK, -⟩ := C
  intro H locs cells slots hR hl
  exact va_ldcM hx hb hown (hts _ (gl_in hw rfl)) hK.2.2.2.2.1 hd (kk H locs cells slots hR hl)
end SND4
end
section
section SND5
variable {p : Program} {l : Launch} {e : Env} {R : Room} {s : State} {m : MethodId} {args : Array Value} {below : List Frame} {meth : Method} {c : Code}
variable {D : va_G} {tys : List (ClassId × FieldType)} {H0 : Heap} {LC LS : Nat} {gc : Nat → Nat} {cc : ByteArray} {nL : Nat} {own : String} {h0 : AH} {dd : Nat} {Q : State → Prop}
/-- a method's words, room, start and end -/
def wsj (j : Nat) : List Cond := Cond.code (mY j) (mB j) (mL j) (mR j) :: GL
def rmD (d : Nat) (h : AH) : Room := { frames := d, cells := h.2.1, slots := h.2.2.1, locals := 31 * d }
def PcD (D : va_G) (tys : List (ClassId × FieldType)) (H0 : Heap) (LC LS : Nat) (gc : Nat → Nat) (As : List Value) (h : AH) : Array Value → State → Prop := fun v U => v = As.toArray ∧ Rl D vwc tys H0 LC LS h U.heap ∧ KX D tys gc H0 U
def QcD (D : va_G) (tys : List (ClassId × FieldType)) (H0 : Heap) (LC LS : Nat) (q : PT) : Array Value → State → Outcome → State → Prop := fun _ _ o t => ∃ (r : Option Value) (h' : AH), o = .returned r ∧ Rl D vwc tys H0 LC LS h' t.heap ∧ q r h'
def MetD (l : Launch) (D : va_G) (tys : List (ClassId × FieldType)) (H0 : Heap) (LC LS : Nat) (gc : Nat → Nat) (d j : Nat) (As : List Value) (h : AH) (q : PT) : Prop :=
  Met l (mY j) (wsj j) (rmD d h) (PcD D tys H0 LC LS gc As h) (QcD D tys H0 LC LS q) h.2.1 h.2.2.1 (fun x => H0.size ≤ x)
theorem PcD_blind {As : List Value} {h : AH} : FrameBlind (PcD D tys H0 LC LS gc As h) := fun a U g mk ⟨h1, h2, h3⟩ => ⟨h1, h2, KX.moved (U := U.calling g mk a) (State.WarmedH.refl U) h3⟩
theorem mcode {j : Nat} (hj : chkM j = true) : plainName (mY j).cls = true ∧ Cond.code (mY j) (mB j) (mL j) (mR j) ∈ GL ∧ Cond.initialized (mY j).cls ∈ GL ∧ mL j ≤ 12 ∧ mN j ≤ mL j ∧ (mY j).cls ≠ "java/lang/invoke/MethodHandle" ∧ (mY j).cls ≠ "java/lang/invoke/VarHandle" ∧ chkB (mY j).cls (mB j) (mL j) (mR j) (decide ((mY j).name = "<init>")) (mbk j) = true := by
  unfold chkM at hj
  simp only [Bool.and_eq_true, Nat.ble_eq, decide_eq_true_eq] at hj
  obtain ⟨⟨⟨⟨⟨⟨⟨⟨h1, h2⟩, h3⟩, h4⟩, h5⟩, h6⟩, h7⟩, -⟩, h9⟩ := hj
  exact ⟨h1, gl_in h2 rfl, gl_in h3 rfl, h4, h5, h6, h7, h9⟩
theorem wsj_good {j : Nat} (hj : chkM j = true) : GoodIn GL (wsj j) := gl_good (fun w hw => by
  rcases List.mem_cons.mp hw with rfl | hw
  · exact (mcode hj).2.1
  · exact hw)
theorem rest8 {st : List Value} (h : st.length ≤ 4) : (st.map fun v => v.category).sum ≤ 8 := by
  have key : ∀ st : List Value, (st.map fun v => v.category).sum ≤ 2 * st.length := by
    intro st
    induction st with
    | nil => exact Nat.le_refl 0
    | cons a r ih =>
      rw [List.map_cons, List.sum_cons, List.length_cons]
      rcases lv_cat a with q | q <;> omega
  have := key st
  omega
/-- how a call goes on -/
theorem J_run {H : Heap} {locs : List Loc} {cells slots mc ms pc : Nat} {ls : Array Slot} {st rest : List Value} {As : Array Value} {q : PT} (hl : ∀ x ∈ locs, H0.size ≤ x.base)
    (hr : va_Run p l e R s m args below meth c H locs cells slots mc ms (F0 m pc ls st) rest (QcD D tys H0 LC LS q As) (fun x => H0.size ≤ x))
    (kk : ∀ (rv : Option Value) (h' : AH), q rv h' → J p l e R s m args below meth c D vwc tys H0 LC LS Q h' (F0 m (pc + 3) ls (rv.toList ++ rest))) : W p l e R s m args below meth c H locs cells slots Q (F0 m pc ls st) := by
  intro T hT X
  obtain ⟨v, st₀, t, T', L, e0, X', hL, e1, e2, ⟨rv, h', ho, hR', hq⟩, go⟩ := hr T hT X
  cases ho
  obtain ⟨t2, a1, b1⟩ := kk v h' hq t.heap (locs ++ L) _ _ hR' (fun x hx => (List.mem_append.mp hx).elim (hl x) (hL x)) T' e1 X'
  exact ⟨t2, go t2 a1, b1⟩
theorem callB_D {h : AH} {j n idx w : Nat} (C : Cx p R s m args c D tys H0 LC LS gc cc nL own h0 dd) (hj : chkM j = true) (hw : lw_is w (.methodLink own idx (mY j)) = true) (hn : (parseMethodDescriptor (mY j).desc).map (fun d => d.parameters.length) = some n) :
    CallB R s args own idx (mY j) (mB j) (mL j) (mR j) (wsj j) (rmD dd h) h.2.1 h.2.2.1 n := by
  obtain ⟨hx, hb, hml, hown, hts, hK, r0, hF, hLo, hRc, hRs⟩ := C
  obtain ⟨m1, m2, m3, m4, m5, m6, m7, m8⟩ := mcode hj
  exact callB_of n hts (wsj_good hj) rfl rfl rfl (hts _ m3) (hts _ (gl_in hw rfl)) ⟨m6, m7, hn⟩ ⟨hF, by show 8 + (mL j + 11) + 31 * dd ≤ R.locals; omega⟩
theorem lw_one {w : Nat} {x y : Cond} (h1 : lw_is w x = true) (h2 : lw_is w y = true) : x = y := by
  unfold lw_is at h1 h2
  exact Option.some.inj ((of_decide_eq_true h1).symm.trans (of_decide_eq_true h2))
theorem mN_st {j n : Nat} (hj : chkM j = true) (hst : lw_is (mR_ j).2.2.2.2.2.2.1 (.static (mY j)) = true) (hn : mN j = n) : (parseMethodDescriptor (mY j).desc).map (fun d => d.parameters.length) = some n := by
  unfold chkM at hj
  simp only [Bool.and_eq_true] at hj
  have h8 := hj.1.2
  split at h8
  · rename_i n' hn'
    simp only [Bool.or_eq_true, Bool.and_eq_true, decide_eq_true_eq, beq_iff_eq] at h8
    rcases h8 with ⟨-, h8⟩ | ⟨g, -⟩
    · rw [hn']
      congr 1
      omega
    · exact absurd (lw_one hst g) (fun z => by cases z)
  · cases h8
theorem mN_in {j n : Nat} (hj : chkM j = true) (hst : lw_is (mR_ j).2.2.2.2.2.2.1 (.instanceMethod (mY j)) = true) (hn : mN j = n + 1) : (parseMethodDescriptor (mY j).desc).map (fun d => d.parameters.length) = some n := by
  unfold chkM at hj
  simp only [Bool.and_eq_true] at hj
  have h8 := hj.1.2
  split at h8
  · rename_i n' hn'
    simp only [Bool.or_eq_true, Bool.and_eq_true, decide_eq_true_eq, beq_iff_eq] at h8
    rcases h8 with ⟨g, -⟩ | ⟨-, h8⟩
    · exact absurd (lw_one hst g) (fun z => by cases z)
    · rw [hn']
      congr 1
      omega
  · cases h8
theorem stk {st : List Value} {na b : Nat} (h : st[na]? = some (.ref b)) : (st.take (na + 1)).reverse = .ref b :: (st.take na).reverse ∧ st = ((st.take na).reverse).reverse ++ .ref b :: st.drop (na + 1) ∧ ((st.take na).reverse).length = na := by
  have hl := (List.getElem?_eq_some_iff.mp h).1
  have e : st.take (na + 1) = st.take na ++ [.ref b] := by rw [List.take_add_one, h]; rfl
  refine ⟨by rw [e, List.reverse_append]; rfl, ?_, by rw [List.length_reverse, List.length_take]; omega⟩
  rw [List.reverse_reverse]
  have := List.take_append_drop (na + 1) st
  rw [e, List.append_assoc] at this
  exact this.symm
theorem J_callV {h : AH} {j na w idx tC b pc : Nat} {st vs : List Value} {ls : Array Slot} {q : PT} (C : Cx p R s m args c D tys H0 LC LS gc cc nL own h0 dd) (hj : chkM j = true) (hw : lw_is w (.methodLink own idx (mY j)) = true) (hn : mN j = na + 1) (hin : lw_is (mR_ j).2.2.2.2.2.2.1 (.instanceMethod (mY j)) = true) (hse : lw_is (mR_ j).2.2.2.2.2.2.2.1 (.selects (mY j).cls (mY j) (mY j)) = true)
    (h1 : 1 ≤ tC) (h2 : tC < 100) (hC : (match vwc[tC - 1]? with | some (C, _, _) => decide ((mY j).cls = C) | none => false) = true) (hls : ls.size = nL) (hb4 : (st.drop (na + 1)).length ≤ 4) (hst : st[na]? = some (.ref b)) (hat : at_ h b tC vs) (hM : MetD l D tys H0 LC LS gc dd j (st.take (na + 1)).reverse h q) (hd : decode cc pc = .ok (.invokevirtual idx, 3))
    (kk : ∀ (rv : Option Value) (h' : AH), q rv h' → J p l e R s m args below meth c D vwc tys H0 LC LS Q h' (F0 m (pc + 3) ls (rv.toList ++ st.drop (na + 1)))) : J p l e R s m args below meth c D vwc tys H0 LC LS Q h (F0 m pc ls st) := by
  have cb := callB_D (h := h) C hj hw (mN_in hj hin hn)
  obtain ⟨hx, hb, hml, hown, hts, hK, r0, hF, hLo, hRc, hRs⟩ := id C
  intro H locs cells slots hR hl
  obtain ⟨s1, s2, s3⟩ := stk hst
  rw [s1] at hM
  refine J_tg r0 hR (fun z1 z2 => ?_)
  cases hc : vwc[tC - 1]? with
  | none => rw [hc] at hC; cases hC
  | some r =>
    rw [hc] at hC
    obtain ⟨CC, T, N⟩ := r
    have hCC : (mY j).cls = CC := of_decide_eq_true hC
    obtain ⟨g1, g2, r', g3, g4, cell, q1, q2, q3, q4⟩ := ce_obj hR hat h1 h2
    refine J_run hl (va_runV (As := (st.take na).reverse) (rest := st.drop (na + 1)) (b := b) (C := (mY j).cls) ⟨hx, hb, hml, hown, hts⟩ hM ⟨cb, hts _ (gl_in hin rfl), hts _ (gl_in hse rfl)⟩ ⟨PcD_blind, ⟨cell, q1, by rw [q3]; rfl, by rw [q2, hCC]; exact (hK.1.1 _ _ hc).2.1⟩, fun U hU hW => ⟨rfl, by rw [hU]; exact hR, hK.moved hW⟩⟩ rfl s3 hls s2 (lv_room (rest8 hb4)) hd ⟨by omega, by omega⟩) kk
theorem J_callS {h : AH} {j na w idx pc : Nat} {st : List Value} {ls : Array Slot} {q : PT} (C : Cx p R s m args c D tys H0 LC LS gc cc nL own h0 dd) (hj : chkM j = true) (hw : lw_is w (.methodLink own idx (mY j)) = true) (hn : mN j = na) (hsta : lw_is (mR_ j).2.2.2.2.2.2.1 (.static (mY j)) = true)
    (hls : ls.size = nL) (hna : na ≤ st.length) (hb4 : (st.drop na).length ≤ 4) (hM : MetD l D tys H0 LC LS gc dd j (st.take na).reverse h q) (hd : decode cc pc = .ok (.invokestatic idx, 3))
    (kk : ∀ (rv : Option Value) (h' : AH), q rv h' → J p l e R s m args below meth c D vwc tys H0 LC LS Q h' (F0 m (pc + 3) ls (rv.toList ++ st.drop na))) : J p l e R s m args below meth c D vwc tys H0 LC LS Q h (F0 m pc ls st) := by
  have cb := callB_D (h := h) C hj hw (mN_st hj hsta hn)
  obtain ⟨hx, hb, hml, hown, hts, hK, r0, hF, hLo, hRc, hRs⟩ := id C
  intro H locs cells slots hR hl
  refine J_tg r0 hR (fun z1 z2 => ?_)
  exact J_run hl (va_runS (As := (st.take na).reverse) (rest := st.drop na) ⟨hx, hb, hml, hown, hts⟩ hM ⟨cb, hts _ (gl_in hsta rfl)⟩ ⟨PcD_blind, fun U hU hW => ⟨rfl, by rw [hU]; exact hR, hK.moved hW⟩⟩ rfl (by rw [List.length_reverse, List.length_take]; omega) hls (by rw [List.reverse_reverse]; exact (List.take_append_drop na st).symm) (lv_room (rest8 hb4)) hd ⟨by omega, by omega⟩) kk
theorem J_callI {h : AH} {j na w idx b pc : Nat} {st : List Value} {ls : Array Slot} {q : PT} (C : Cx p R s m args c D tys H0 LC LS gc cc nL own h0 dd) (hj : chkM j = true) (hw : lw_is w (.methodLink own idx (mY j)) = true ∨ lw_is w (.methodLinkNest own idx (mY j) "QueueBroker") = true) (hn : mN j = na + 1) (hnm : (mY j).name = "<init>") (hrn : mR j = none) (hin : lw_is (mR_ j).2.2.2.2.2.2.1 (.instanceMethod (mY j)) = true)
    (hls : ls.size = nL) (hb4 : (st.drop (na + 1)).length ≤ 4) (hst : st[na]? = some (.ref b)) (hM : MetD l D tys H0 LC LS gc dd j (st.take (na + 1)).reverse h q) (hd : decode cc pc = .ok (.invokespecial idx, 3))
    (kk : ∀ (rv : Option Value) (h' : AH), q rv h' → J p l e R s m args below meth c D vwc tys H0 LC LS Q h' (F0 m (pc + 3) ls (rv.toList ++ st.drop (na + 1)))) : J p l e R s m args below meth c D vwc tys H0 LC LS Q h (F0 m pc ls st) := by
  obtain ⟨hx, hb, hml, hown, hts, hK, r0, hF, hLo, hRc, hRs⟩ := id C
  intro H locs cells slots hR hl
  obtain ⟨s1, s2, s3⟩ := stk hst
  rw [s1] at hM
  refine J_tg r0 hR (fun z1 z2 => ?_)
  rcases hw with hw | hw
  · have cb := callB_D (h := h) C hj hw (mN_in hj hin hn)
    rw [hrn] at cb
    exact J_run hl (va_runI (As := (st.take na).reverse) (rest := st.drop (na + 1)) (b := b) ⟨hx, hb, hml, hown, hts⟩ hM ⟨cb, hnm, hts _ (gl_in hin rfl)⟩ ⟨PcD_blind, fun U hU hW => ⟨rfl, by rw [hU]; exact hR, hK.moved hW⟩⟩ rfl s3 hls s2 (lv_room (rest8 hb4)) hd ⟨by omega, by omega⟩) kk
  · obtain ⟨m1, m2, m3, m4, m5, m6, m7, m8⟩ := mcode hj
    have cb : va_CN R s args own idx (mY j) "QueueBroker" (mB j) (mL j) (mR j) (wsj j) (rmD dd h) h.2.1 h.2.2.1 na := va_cnB na hts (wsj_good hj) rfl rfl rfl (hK.2.2.1 _ (tb_in hw) rfl) (hts _ m3) ⟨m6, m7, mN_in hj hin hn⟩ ⟨hF, by show 8 + (mL j + 11) + 31 * dd ≤ R.locals; omega⟩
    rw [hrn] at cb
    exact J_run hl (va_runIN (As := (st.take na).reverse) (rest := st.drop (na + 1)) (b := b) ⟨hx, hb, hml, hown, hts⟩ hM ⟨cb, hnm, hts _ (gl_in hin rfl)⟩ ⟨PcD_blind, fun U hU hW => ⟨rfl, by rw [hU]; exact hR, hK.moved hW⟩⟩ rfl s3 hls s2 (lv_room (rest8 hb4)) hd ⟨by omega, by omega⟩) kk
end SND5
end
section
section SND6
variable {p : Program} {l : Launch} {e : Env} {R : Room} {s : State} {m : MethodId} {args : Array Value} {below : List Frame} {meth : Method} {c : Code}
variable {D : va_G} {tys : List (ClassId × FieldType)} {H0 : Heap} {LC LS : Nat} {gc : Nat → Nat} {cc : ByteArray} {nL : Nat} {own : String} {h0 : AH} {dd : Nat} {Q : State → Prop}
theorem oi1_0 : lw_is 75 (Cond.instanceMethod objectInit) = true := by decide +kernel
theorem oi2_0 : lw_is 76 (Cond.code objectInit ⟨#[0xb1]⟩ 1 none) = true := by decide +kernel
theorem J_objInit {h : AH} {a w idx pc : Nat} {rest : List Value} {ls : Array Slot} (C : Cx p R s m args c D tys H0 LC LS gc cc nL own h0 dd) (hw : lw_is w (.methodLink own idx objectInit) = true) (hls : ls.size = nL) (hb4 : rest.length ≤ 4) (hd : decode cc pc = .ok (.invokespecial idx, 3))
    (kk : J p l e R s m args below meth c D vwc tys H0 LC LS Q h (F0 m (pc + 3) ls rest)) : J p l e R s m args below meth c D vwc tys H0 LC LS Q h (F0 m pc ls (.ref a :: rest)) := by
  obtain ⟨hx, hb, hml, hown, hts, hK, r0, hF, hLo, hRc, hRs⟩ := C
  intro H locs cells slots hR hl
  have h8 := rest8 hb4
  exact W.objInit hx hb hown (hts _ (gl_in hw rfl)) (hts _ (gl_in oi1_0 rfl)) (hts _ (gl_in oi2_0 rfl)) rfl (by rw [hml]; exact hls) rfl hd (by omega) (by show 2 * 0 + _ + 12 ≤ _; omega) (kk H locs cells slots hR hl)
theorem mx1_0 : lw_is 304 (Cond.static Lib.Math.max.name) = true := by decide +kernel
theorem mx2_0 : lw_is 305 (Cond.code Lib.Math.max.name Lib.Math.max.code 2 (some .int)) = true := by decide +kernel
theorem mn1_0 : lw_is 335 (Cond.static Lib.Math.min.name) = true := by decide +kernel
theorem mn2_0 : lw_is 336 (Cond.code Lib.Math.min.name Lib.Math.min.code 2 (some .int)) = true := by decide +kernel
theorem mi_0 : lw_is 62 (Cond.initialized "java/lang/Math") = true := by decide +kernel
theorem si_0 : lw_is 64 (Cond.initialized "java/lang/System") = true := by decide +kernel
theorem ac1_0 : lw_is 339 (Cond.native arraycopyName) = true := by decide +kernel
theorem ac2_0 : lw_is 338 (Cond.static arraycopyName) = true := by decide +kernel
theorem J_max {h : AH} {w idx pc : Nat} {x y : Int32} {rest : List Value} {ls : Array Slot} (C : Cx p R s m args c D tys H0 LC LS gc cc nL own h0 dd) (hw : lw_is w (.methodLink own idx Lib.Math.max.name) = true) (hls : ls.size = nL) (hb4 : rest.length ≤ 4) (hd : decode cc pc = .ok (.invokestatic idx, 3))
    (kk : J p l e R s m args below meth c D vwc tys H0 LC LS Q h (F0 m (pc + 3) ls (.int (if x < y then y else x) :: rest))) : J p l e R s m args below meth c D vwc tys H0 LC LS Q h (F0 m pc ls (.int y :: .int x :: rest)) := by
  obtain ⟨hx, hb, hml, hown, hts, hK, r0, hF, hLo, hRc, hRs⟩ := C
  intro H locs cells slots hR hl
  have h8 := rest8 hb4
  refine J_tg r0 hR (fun z1 z2 => ?_)
  exact va_mmax hx hb (by rw [hml]; exact hls.symm) hown (hts _ (gl_in hw rfl)) (hts _ (gl_in mx1_0 rfl)) (hts _ (gl_in mi_0 rfl)) (hts _ (gl_in mx2_0 rfl)) (by omega) (by omega) (by omega) (by omega) hd (kk H locs _ _ hR hl)
theorem J_min {h : AH} {w idx pc : Nat} {x y : Int32} {rest : List Value} {ls : Array Slot} (C : Cx p R s m args c D tys H0 LC LS gc cc nL own h0 dd) (hw : lw_is w (.methodLink own idx Lib.Math.min.name) = true) (hls : ls.size = nL) (hb4 : rest.length ≤ 4) (hd : decode cc pc = .ok (.invokestatic idx, 3))
    (kk : J p l e R s m args below meth c D vwc tys H0 LC LS Q h (F0 m (pc + 3) ls (.int (if y < x then y else x) :: rest))) : J p l e R s m args below meth c D vwc tys H0 LC LS Q h (F0 m pc ls (.int y :: .int x :: rest)) := by
  obtain ⟨hx, hb, hml, hown, hts, hK, r0, hF, hLo, hRc, hRs⟩ := C
  intro H locs cells slots hR hl
  have h8 := rest8 hb4
  refine J_tg r0 hR (fun z1 z2 => ?_)
  exact va_mmin hx hb (by rw [hml]; exact hls.symm) hown (hts _ (gl_in hw rfl)) (hts _ (gl_in mn1_0 rfl)) (hts _ (gl_in mi_0 rfl)) (hts _ (gl_in mn2_0 rfl)) (by omega) (by omega) (by omega) (by omega) hd (kk H locs _ _ hR hl)
theorem gk1_0 : lw_is 1014 (Cond.declares ⟨"java/lang/Object", "getClass", "()Ljava/lang/Class;"⟩) = true := by decide +kernel
theorem gk2_0 : lw_is 1013 (Cond.selects "[Ljava/lang/Object;" ⟨"java/lang/Object", "getClass", "()Ljava/lang/Class;"⟩ ⟨"java/lang/Object", "getClass", "()Ljava/lang/Class;"⟩) = true := by decide +kernel
theorem gk3_0 : lw_is 314 (Cond.instanceMethod ⟨"java/lang/Object", "getClass", "()Ljava/lang/Class;"⟩) = true := by decide +kernel
theorem gk4_0 : lw_is 327 (Cond.native ⟨"java/lang/Object", "getClass", "()Ljava/lang/Class;"⟩) = true := by decide +kernel
theorem J_getC {h : AH} {a w idx pc : Nat} {vs rest : List Value} {ls : Array Slot} (C : Cx p R s m args c D tys H0 LC LS gc cc nL own h0 dd) (hw : lw_is w (.methodLink own idx ⟨"java/lang/Object", "getClass", "()Ljava/lang/Class;"⟩) = true) (hat : at_ h a 103 vs) (hls : ls.size = nL) (hb4 : rest.length ≤ 4) (hd : decode cc pc = .ok (.invokevirtual idx, 3))
    (kk : J p l e R s m args below meth c D vwc tys H0 LC LS Q h (F0 m (pc + 3) ls (.ref (gc 0) :: rest))) : J p l e R s m args below meth c D vwc tys H0 LC LS Q h (F0 m pc ls (.ref a :: rest)) := by
  obtain ⟨hx, hb, hml, hown, hts, hK, r0, hF, hLo, hRc, hRs⟩ := C
  intro H locs cells slots hR hl
  have h8 := rest8 hb4
  obtain ⟨q, q1, q2, q3, q4, q5⟩ := J_arr hK hR hat (by decide) (by decide)
  have hq : q.2 = .object "java/lang/Object" := (Option.some.inj (show some (FieldType.object "java/lang/Object") = some q.2 from q2)).symm
  rw [hq] at q5
  exact va_getC hx hb (by rw [hml]; exact hls.symm) hown (hts _ (gl_in hw rfl)) (va_Nw.use rfl (hK.2.2.1 _ (tb_in gk1_0) rfl)) (hts _ (gl_in gk2_0 rfl)) (hts _ (gl_in gk3_0 rfl)) (hts _ (gl_in gk4_0 rfl)) hK.2.2.2.2.1 ⟨_, q3, rfl, va_nmO q5 (by decide)⟩ (by omega) (by omega) hd (kk H locs cells slots hR hl)
end SND6
end
section
section SND7
variable {p : Program} {l : Launch} {e : Env} {R : Room} {s : State} {m : MethodId} {args : Array Value} {below : List Frame} {meth : Method} {c : Code}
variable {D : va_G} {tys : List (ClassId × FieldType)} {H0 : Heap} {LC LS : Nat} {gc : Nat → Nat} {cc : ByteArray} {nL : Nat} {own : String} {h0 : AH} {dd : Nat} {Q : State → Prop}
theorem arrV_cg (cA : ClassId) {N : Nat} {f g : Nat → Value} (h : ∀ j, j < N → f j = g j) : arrV cA N f = arrV cA N g := by
  unfold arrV
  congr 2
  funext j
  exact h j.val j.2
theorem cpyL_len (v0 v1 : List Value) (sp dp n : Nat) : (cpyL v0 v1 sp dp n).length = v1.length := by
  unfold cpyL
  rw [List.length_map, List.length_range]
theorem cpyL_at {v0 v1 : List Value} {sp dp n j : Nat} (h : j < v1.length) : vp_V (cpyL v0 v1 sp dp n) j = va_cpy (vp_V v0) (vp_V v1) sp dp n j := by
  unfold cpyL vp_V
  rw [List.getD_eq_getElem?_getD, List.getElem?_map, List.getElem?_range h]
  rfl
theorem J_copy {h : AH} {a a0 w idx pc : Nat} {sp dp k : Int32} {v0 v1 rest : List Value} {ls : Array Slot} (C : Cx p R s m args c D tys H0 LC LS gc cc nL own h0 dd) (hw : lw_is w (.methodLink own idx arraycopyName) = true) (hls : ls.size = nL) (hb4 : rest.length ≤ 4) (ha0 : at_ h a0 103 v0) (ha : at_ h a 103 v1) (h1 : ¬ sp < 0) (h2 : ¬ dp < 0) (h3 : ¬ k < 0)
    (h4 : sp.toNatClampNeg + k.toNatClampNeg ≤ v0.length) (h5 : dp.toNatClampNeg + k.toNatClampNeg ≤ v1.length) (h6 : 1 ≤ v1.length) (hel : ∀ v ∈ v0, v = .null ∨ ∃ (y ty : Nat) (vs : List Value), v = .ref y ∧ at_ h y ty vs ∧ asg 103 ty = true) (hd : decode cc pc = .ok (.invokestatic idx, 3))
    (kk : J p l e R s m args below meth c D vwc tys H0 LC LS Q (ah_set h a (103, cpyL v0 v1 sp.toNatClampNeg dp.toNatClampNeg k.toNatClampNeg)) (F0 m (pc + 3) ls rest)) : J p l e R s m args below meth c D vwc tys H0 LC LS Q h (F0 m pc ls (.int k :: .int dp :: .ref a :: .int sp :: .ref a0 :: rest)) := by
  obtain ⟨hx, hb, hml, hown, hts, hK, r0, hF, hLo, hRc, hRs⟩ := C
  intro H locs cells slots hR hl
  have h8 := rest8 hb4
  obtain ⟨q0, p1, p2, hc0, -, -⟩ := J_arr hK hR ha0 (by decide) (by decide)
  obtain ⟨q, q1, q2, hc1, -, q5⟩ := J_arr hK hR ha (by decide) (by decide)
  obtain ⟨o1, o2, -⟩ := ce_arr hR ha (by decide) (by decide)
  have o1 := o1 (fun z => by rw [z] at h6; exact absurd h6 (by decide))
  have hq : q.2 = .object "java/lang/Object" := (Option.some.inj (show some (FieldType.object "java/lang/Object") = some q.2 from q2)).symm
  have hq0 : q0.2 = .object "java/lang/Object" := (Option.some.inj (show some (FieldType.object "java/lang/Object") = some q0.2 from p2)).symm
  obtain ⟨-, k0, hk0, cm0, hkk0⟩ := (hK.1.2 _ _ p1).1 v0.length (vp_V v0)
  obtain ⟨-, k1, hk1, cm1, hkk1⟩ := (hK.1.2 _ _ q1).1 v1.length (vp_V v1)
  rw [hq] at hkk1 q5
  rw [hq0] at hkk0
  have nn : ∀ z : Int32, ¬ z < 0 → z.toInt = (z.toNatClampNeg : Int) := by
    intro z hz
    have hz0 : (0 : Int) ≤ z.toInt := by
      have := Int32.not_lt.mp hz
      simpa using Int32.le_iff_toInt_le.mp this
    show z.toInt = ((z.toInt.toNat : Nat) : Int)
    omega
  intro T hT X
  obtain ⟨vm', X', step⟩ := X.arraycopy hx hown (hts _ (gl_in hw rfl)) (hts _ (gl_in ac1_0 rfl)) (hts _ (gl_in ac2_0 rfl)) (hts _ (gl_in si_0 rfl)) (src := a0) (dst := a) (cs := arrV q0.1 v0.length (vp_V v0)) (cd := arrV q.1 v1.length (vp_V v1)) (srcPos := sp) (destPos := dp) (n := k) (by rw [hT]; exact hc0) (by rw [hT]; exact hc1)
    (fun _ h => by cases h) (fun _ h => by cases h) (fun h => by cases h) (fun h => by cases h) hk0 hk1 hkk0 hkk1 rfl h1 h2 h3
    (by rw [nn sp h1, nn k h3, arrV_size]; omega)
    (by rw [nn dp h2, nn k h3, arrV_size]; omega)
    (fun vm₁ hal i hi => by
      have hlt : sp.toNatClampNeg + i < v0.length := by omega
      have e0 : (arrV q0.1 v0.length (vp_V v0)).slots.getD (sp.toNatClampNeg + i) .null = v0[sp.toNatClampNeg + i] := by
        rw [Array.getD_eq_getD_getElem?, arrV_read _ _ hlt]
        show vp_V v0 _ = _
        exact vp_read (List.getElem?_eq_getElem hlt)
      rw [e0]
      rcases hel _ (List.getElem_mem hlt) with hy | ⟨y, ty, vs, hy, g1, g2⟩
      · rw [hy]; exact ⟨rfl, trivial⟩
      · rw [hy]
        obtain ⟨A, a1, cellV, i1, i2, ⟨kC, hkC⟩, hasg⟩ := asg_any hK hR g1 g2
        have hA : A = "java/lang/Object" := (FieldType.object.inj (Option.some.inj (show some (FieldType.object "java/lang/Object") = some (.object A) from a1))).symm
        subst hA
        obtain ⟨kA, comp, r1, r2, r3, -⟩ := q5
        cases hk1.symm.trans r1
        cases hkk1.symm.trans r2
        obtain ⟨kE, hkE, -⟩ := Vm.findClass_spec r3
        obtain ⟨kC', hkC', -⟩ := hal.2.2 _ _ hkC
        obtain ⟨kE', hkE', -⟩ := hal.2.2 _ _ hkE
        refine ⟨rfl, cellV, (show T.heap[y]? = some cellV by rw [hT]; exact i1), (fun q h => by rw [h] at i2; cases i2), ⟨kC', hkC'⟩, ?_, ?_⟩
        · exact ⟨kE', hkE'⟩
        · show vm₁.assignable _ _ = true
          rw [hal.assignable]
          exact hasg _ r3)
    (g := F0 m pc ls (.int k :: .int dp :: .ref a :: .int sp :: .ref a0 :: rest)) rfl (by rw [hml]; exact hls) (rest := rest) rfl (by rw [hb]; exact hd) (by omega) (by show 2 * 0 + _ + _ ≤ _; have hw9 : nativeFrameWords "java/lang/System" "arraycopy" 5 = 7 := (by decide); omega)
  have e1 : copied (arrV q0.1 v0.length (vp_V v0)) (arrV q.1 v1.length (vp_V v1)) sp dp k = arrV q.1 v1.length (va_cpy (vp_V v0) (vp_V v1) sp.toNatClampNeg dp.toNatClampNeg k.toNatClampNeg) := va_copied (fun z => z) q0.1 q.1 (vp_V v0) (vp_V v1) h4
  rw [e1] at X' step
  have hlt : a < H.size := (Array.getElem?_eq_some_iff.mp hc1).1
  have hheap : ((T.setVm vm').setCell a (arrV q.1 v1.length (va_cpy (vp_V v0) (vp_V v1) sp.toNatClampNeg dp.toNatClampNeg k.toNatClampNeg))).heap = H.setIfInBounds a (arrV q.1 v1.length (va_cpy (vp_V v0) (vp_V v1) sp.toNatClampNeg dp.toNatClampNeg k.toNatClampNeg)) := by rw [← hT]; rfl
  have hself : (H.setIfInBounds a (arrV q.1 v1.length (va_cpy (vp_V v0) (vp_V v1) sp.toNatClampNeg dp.toNatClampNeg k.toNatClampNeg)))[a]? = some (arrV q.1 v1.length (va_cpy (vp_V v0) (vp_V v1) sp.toNatClampNeg dp.toNatClampNeg k.toNatClampNeg)) := by simp [Array.getElem?_setIfInBounds, hlt]
  obtain ⟨t, a1, b1⟩ := kk _ _ _ _ (hR.set (e := (103, cpyL v0 v1 sp.toNatClampNeg dp.toNatClampNeg k.toNatClampNeg)) o1 o2 (by simp) (fun x hx => by simp [Array.getElem?_setIfInBounds, Ne.symm hx]) (fun c' hc' => by
      cases hc1.symm.trans hc'
      exact ⟨_, hself, by rw [arrV_size, arrV_size]⟩) (by
      unfold ce_at
      rw [if_neg (show ¬ (103 : Nat) < 100 by decide), if_pos (show (103 : Nat) < 200 by decide)]
      refine ⟨q, q1, hself.trans ?_⟩
      show some _ = some (arrV q.1 (cpyL v0 v1 _ _ _).length _)
      rw [cpyL_len]
      exact congrArg some (arrV_cg _ (fun j hj => (cpyL_at hj).symm)))) (fun x hx => by
      rcases List.mem_append.mp hx with z | z
      · exact hl x z
      · obtain ⟨y, -, hy⟩ := List.mem_map.mp z
        rw [← hy]
        exact o1) _ hheap X'
  exact ⟨t, step t a1, b1⟩
end SND7
end
section
section SND8
variable {p : Program} {l : Launch} {e : Env} {R : Room} {s : State} {m : MethodId} {args : Array Value} {below : List Frame} {meth : Method} {c : Code}
variable {D : va_G} {tys : List (ClassId × FieldType)} {H0 : Heap} {LC LS : Nat} {gc : Nat → Nat} {cc : ByteArray} {nL : Nat} {own : String} {h0 : AH} {dd : Nat} {Q : State → Prop}
theorem rvk_elim {rk : Nat} {rv : Option Value} {s' : List Value} {nx : List Value → Prop} (h : rvk rk rv s' nx) : nx (rv.toList ++ s') := by
  unfold rvk at h
  split at h
  · obtain ⟨rfl, h⟩ := h; exact h
  · obtain ⟨x, rfl, h⟩ := h; exact h
  · obtain ⟨x, rfl, h⟩ := h; exact h
  · obtain ⟨x, rfl, h⟩ := h; exact h
  · rcases h with ⟨rfl, h⟩ | ⟨x, rfl, h⟩ <;> exact h
  · exact h.elim
theorem c1_cat {v : Value} (h : c1_ v = true) : v.category = 1 := by
  cases v <;> first | rfl | cases h
theorem J_ifI {h : AH} {cnd : ClassFile.Cond} {x y : Int32} {off : Int} {t pc : Nat} {rest : List Value} {ls : Array Slot} {A B : Prop} (hx : p.tables.exec = Jvm.exec) (hb : c.code = cc) (hw : ifI cnd x y A B) (hd : decode cc pc = .ok (.if_icmp cnd off, 3)) (ht : (pc : Int) + off = (t : Int)) (hA : A → J p l e R s m args below meth c D vwc tys H0 LC LS Q h (F0 m t ls rest)) (hB : B → J p l e R s m args below meth c D vwc tys H0 LC LS Q h (F0 m (pc + 3) ls rest)) : J p l e R s m args below meth c D vwc tys H0 LC LS Q h (F0 m pc ls (.int y :: .int x :: rest)) := by
  intro H locs cells slots a b
  cases cnd
  · exact lv_icmp_eq (tgt := t) hx hb hd ht (fun z => hA (hw.1 z) H locs cells slots a b) (fun z => hB (hw.2 z) H locs cells slots a b)
  · exact lv_icmp_ne (tgt := t) hx hb hd ht (fun z => hA (hw.1 z) H locs cells slots a b) (fun z => hB (hw.2 z) H locs cells slots a b)
  · exact lv_icmp_lt (tgt := t) hx hb hd ht (fun z => hA (hw.1 z) H locs cells slots a b) (fun z => hB (hw.2 z) H locs cells slots a b)
  · exact lv_icmp_ge (tgt := t) hx hb hd ht (fun z => hA (hw.1 z) H locs cells slots a b) (fun z => hB (hw.2 z) H locs cells slots a b)
  · exact lv_icmp_gt (tgt := t) hx hb hd ht (fun z => hA (hw.1 z) H locs cells slots a b) (fun z => hB (hw.2 z) H locs cells slots a b)
  · exact lv_icmp_le (tgt := t) hx hb hd ht (fun z => hA (hw.1 z) H locs cells slots a b) (fun z => hB (hw.2 z) H locs cells slots a b)
theorem J_if0 {h : AH} {cnd : ClassFile.Cond} {x : Int32} {off : Int} {t pc : Nat} {rest : List Value} {ls : Array Slot} {A B : Prop} (hx : p.tables.exec = Jvm.exec) (hb : c.code = cc) (hw : ifI cnd x 0 A B) (hd : decode cc pc = .ok (.ifCond cnd off, 3)) (ht : (pc : Int) + off = (t : Int)) (hA : A → J p l e R s m args below meth c D vwc tys H0 LC LS Q h (F0 m t ls rest)) (hB : B → J p l e R s m args below meth c D vwc tys H0 LC LS Q h (F0 m (pc + 3) ls rest)) : J p l e R s m args below meth c D vwc tys H0 LC LS Q h (F0 m pc ls (.int x :: rest)) := by
  intro H locs cells slots a b
  cases cnd
  · exact lv_if_eq (tgt := t) hx hb hd ht (fun z => hA (hw.1 z) H locs cells slots a b) (fun z => hB (hw.2 z) H locs cells slots a b)
  · exact lv_if_ne (tgt := t) hx hb hd ht (fun z => hA (hw.1 z) H locs cells slots a b) (fun z => hB (hw.2 z) H locs cells slots a b)
  · exact lv_if_lt (tgt := t) hx hb hd ht (fun z => hA (hw.1 z) H locs cells slots a b) (fun z => hB (hw.2 z) H locs cells slots a b)
  · exact lv_if_ge (tgt := t) hx hb hd ht (fun z => hA (hw.1 z) H locs cells slots a b) (fun z => hB (hw.2 z) H locs cells slots a b)
  · exact lv_if_gt (tgt := t) hx hb hd ht (fun z => hA (hw.1 z) H locs cells slots a b) (fun z => hB (hw.2 z) H locs cells slots a b)
  · exact lv_if_le (tgt := t) hx hb hd ht (fun z => hA (hw.1 z) H locs cells slots a b) (fun z => hB (hw.2 z) H locs cells slots a b)
theorem J_tab {h : AH} {x : Int32} {dflt lo hi : Int} {offs : Array Int} {d n pc : Nat} {ts : List Nat} {rest : List Value} {ls : Array Slot} {KK : Nat → Prop} (hx : p.tables.exec = Jvm.exec) (hb : c.code = cc) (hw : ((x.toInt < lo ∨ hi < x.toInt) → KK d) ∧ ∀ (j t : Nat), ts[j]? = some t → x.toInt = lo + j → KK t) (hd : decode cc pc = .ok (.tableswitch dflt lo hi offs, n)) (h1 : (pc : Int) + dflt = (d : Int)) (h2 : ts.map (fun (t : Nat) => ((t : Int) - (pc : Int))) = offs.toList) (h3 : lo + (ts.length : Int) = hi + 1) (hA : ∀ t, KK t → J p l e R s m args below meth c D vwc tys H0 LC LS Q h (F0 m t ls rest)) : J p l e R s m args below meth c D vwc tys H0 LC LS Q h (F0 m pc ls (.int x :: rest)) := by
  intro H locs cells slots a b
  by_cases ho : x.toInt < lo ∨ hi < x.toInt
  · exact lv_tableOut hx hb hd ho h1 (hA d (hw.1 ho) H locs cells slots a b)
  · have g1 : ¬ x.toInt < lo := fun z => ho (Or.inl z)
    have g2 : ¬ hi < x.toInt := fun z => ho (Or.inr z)
    have hj : (x.toInt - lo).toNat < ts.length := by omega
    have ho2 : offs[(x.toInt - lo).toNat]? = some ((ts[(x.toInt - lo).toNat] : Int) - (pc : Int)) := by
      rw [← Array.getElem?_toList, ← h2, List.getElem?_map, List.getElem?_eq_getElem hj]
      rfl
    exact lv_tableIn (tgt := ts[(x.toInt - lo).toNat]) hx hb hd g1 g2 ho2 (by omega) (hA _ (hw.2 _ _ (List.getElem?_eq_getElem hj) (by omega)) H locs cells slots a b)
set_option maxHeartbeats 8000000 in
theorem wpb_sound {E : Nat → List Value → AH → PT → Prop} {K : KT} {q : PT} {rt : Option FieldType} {ini : Bool} (C : Cx p R s m args c D tys H0 LC LS gc cc nL own h0 dd) (hini : ini = true → meth.name = "<init>")
    (hE : ∀ (j : Nat) (As : List Value) (h : AH) (Q' : PT), E j As h Q' → MetD l D tys H0 LC LS gc dd j As h Q') (hM : ∀ j, j < mI.length → chkM j = true)
    (hK : ∀ (pc : Nat) (L st : List Value) (h : AH), K pc L st h → ∀ ls, lvl ls L → L.length = nL → J p l e R s m args below meth c D vwc tys H0 LC LS Q h (F0 m pc ls st))
    (hri : ∀ (pc : Nat) (ls : Array Slot) (h : AH) (x : Int32), decode cc pc = .ok (.ireturn, 1) → (rt = some .int ∨ (rt = some .boolean ∧ (x = 0 ∨ x = 1))) → q (some (.int x)) h → J p l e R s m args below meth c D vwc tys H0 LC LS Q h (F0 m pc ls [.int x]))
    (hrl : ∀ (pc : Nat) (ls : Array Slot) (h : AH) (x : Int64), decode cc pc = .ok (.lreturn, 1) → rt = some .long → q (some (.long x)) h → J p l e R s m args below meth c D vwc tys H0 LC LS Q h (F0 m pc ls [.long x]))
    (hra : ∀ (pc : Nat) (ls : Array Slot) (h : AH) (v : Value), decode cc pc = .ok (.areturn, 1) → (∃ rt', rt = some rt' ∧ ((∃ n, rt' = .object n) ∨ ∃ t, rt' = .array t)) → (v = .null ∨ ∃ a, v = .ref a) → q (some v) h → J p l e R s m args below meth c D vwc tys H0 LC LS Q h (F0 m pc ls [v]))
    (hrv : ∀ (pc : Nat) (ls : Array Slot) (h : AH), decode cc pc = .ok (.return_, 1) → rt = none → q none h → J p l e R s m args below meth c D vwc tys H0 LC LS Q h (F0 m pc ls [])) :
    ∀ (b : List Ins) (pc : Nat), chk own cc nL rt ini b pc = true → ∀ (L st : List Value) (h : AH), wpb gc E K q b pc L st h → ∀ ls, lvl ls L → L.length = nL → J p l e R s m args below meth c D vwc tys H0 LC LS Q h (F0 m pc ls st) := by
  intro b
  induction b with
  | nil => intro pc _ L st h hw ls hlv hL; exact hK pc L st h hw ls hlv hL
  | cons x r ih =>
    obtain ⟨i, n, an⟩ := x
    intro pc hc L st h hw ls hlv hL
    simp only [chk, Bool.and_eq_true, decide_eq_true_eq] at hc
    obtain ⟨hd, h1, hr⟩ := hc
    have hsz : ls.size = nL := hlv.1.1.trans hL
    obtain ⟨hx, hb, hml, hown, hts, hKX, r0, hF, hLo, hRc, hRs⟩ := id C
    cases i with
    | aconst_null =>
      obtain rfl : n = 1 := eq_of_beq h1
      exact fun H locs cells slots a b => lv_null hx hb hd (ih _ hr _ _ _ hw ls hlv hL H locs cells slots a b)
    | iconst v =>
      obtain rfl : n = 1 := eq_of_beq h1
      exact fun H locs cells slots a b => lv_iconst hx hb hd rfl (ih _ hr _ _ _ hw ls hlv hL H locs cells slots a b)
    | bipush v =>
      obtain rfl : n = 2 := eq_of_beq h1
      exact fun H locs cells slots a b => lv_bipush hx hb hd rfl (ih _ hr _ _ _ hw ls hlv hL H locs cells slots a b)
    | sipush v =>
      obtain rfl : n = 3 := eq_of_beq h1
      exact fun H locs cells slots a b => lv_sipush hx hb hd rfl (ih _ hr _ _ _ hw ls hlv hL H locs cells slots a b)
    | lconst v =>
      obtain rfl : n = 1 := eq_of_beq h1
      exact fun H locs cells slots a b => lv_lconst hx hb hd rfl (ih _ hr _ _ _ hw ls hlv hL H locs cells slots a b)
    | iadd =>
      obtain rfl : n = 1 := eq_of_beq h1
      simp only [wpb] at hw
      split at hw
      · exact fun H locs cells slots a b => lv_iadd hx hb hd (ih _ hr _ _ _ hw ls hlv hL H locs cells slots a b)
      · exact hw.elim
    | isub =>
      obtain rfl : n = 1 := eq_of_beq h1
      simp only [wpb] at hw
      split at hw
      · exact fun H locs cells slots a b => lv_isub hx hb hd (ih _ hr _ _ _ hw ls hlv hL H locs cells slots a b)
      · exact hw.elim
    | imul =>
      obtain rfl : n = 1 := eq_of_beq h1
      simp only [wpb] at hw
      split at hw
      · exact fun H locs cells slots a b => lv_imul hx hb hd (ih _ hr _ _ _ hw ls hlv hL H locs cells slots a b)
      · exact hw.elim
    | iand =>
      obtain rfl : n = 1 := eq_of_beq h1
      simp only [wpb] at hw
      split at hw
      · exact fun H locs cells slots a b => lv_iand hx hb hd (ih _ hr _ _ _ hw ls hlv hL H locs cells slots a b)
      · exact hw.elim
    | ior =>
      obtain rfl : n = 1 := eq_of_beq h1
      simp only [wpb] at hw
      split at hw
      · exact fun H locs cells slots a b => lv_ior hx hb hd (ih _ hr _ _ _ hw ls hlv hL H locs cells slots a b)
      · exact hw.elim
    | ishl =>
      obtain rfl : n = 1 := eq_of_beq h1
      simp only [wpb] at hw
      split at hw
      · exact fun H locs cells slots a b => lv_ishl hx hb hd (ih _ hr _ _ _ hw ls hlv hL H locs cells slots a b)
      · exact hw.elim
    | ishr =>
      obtain rfl : n = 1 := eq_of_beq h1
      simp only [wpb] at hw
      split at hw
      · exact fun H locs cells slots a b => lv_ishr hx hb hd (ih _ hr _ _ _ hw ls hlv hL H locs cells slots a b)
      · exact hw.elim
    | iushr =>
      obtain rfl : n = 1 := eq_of_beq h1
      simp only [wpb] at hw
      split at hw
      · exact fun H locs cells slots a b => lv_iushr hx hb hd rfl (ih _ hr _ _ _ hw ls hlv hL H locs cells slots a b)
      · exact hw.elim
    | irem =>
      obtain rfl : n = 1 := eq_of_beq h1
      simp only [wpb] at hw
      split at hw
      · exact fun H locs cells slots a b => lv_irem hx hb hd hw.1 (ih _ hr _ _ _ hw.2 ls hlv hL H locs cells slots a b)
      · exact hw.elim
    | ineg =>
      obtain rfl : n = 1 := eq_of_beq h1
      simp only [wpb] at hw
      split at hw
      · exact fun H locs cells slots a b => lv_ineg hx hb hd (ih _ hr _ _ _ hw ls hlv hL H locs cells slots a b)
      · exact hw.elim
    | i2l =>
      obtain rfl : n = 1 := eq_of_beq h1
      simp only [wpb] at hw
      split at hw
      · exact fun H locs cells slots a b => lv_i2l hx hb hd rfl (ih _ hr _ _ _ hw ls hlv hL H locs cells slots a b)
      · exact hw.elim
    | lcmp =>
      obtain rfl : n = 1 := eq_of_beq h1
      simp only [wpb] at hw
      split at hw
      · exact fun H locs cells slots a b => W.lcmp hx hb hd (ih _ hr _ _ _ hw ls hlv hL H locs cells slots a b)
      · exact hw.elim
    | pop =>
      obtain rfl : n = 1 := eq_of_beq h1
      simp only [wpb] at hw
      split at hw
      · split at hw
        · rename_i hc1
          exact fun H locs cells slots a b => lv_pop hx hb hd (c1_cat hc1) (ih _ hr _ _ _ hw ls hlv hL H locs cells slots a b)
        · exact hw.elim
      · exact hw.elim
    | dup =>
      obtain rfl : n = 1 := eq_of_beq h1
      simp only [wpb] at hw
      split at hw
      · split at hw
        · rename_i hc1
          exact fun H locs cells slots a b => lv_dup hx hb hd (c1_cat hc1) (ih _ hr _ _ _ hw ls hlv hL H locs cells slots a b)
        · exact hw.elim
      · exact hw.elim
    | dup_x1 =>
      obtain rfl : n = 1 := eq_of_beq h1
      simp only [wpb] at hw
      split at hw
      · split at hw
        · rename_i hc1 hc2
          exact fun H locs cells slots a b => lv_dup_x1 hx hb hd (c1_cat hc1) (c1_cat hc2) (ih _ hr _ _ _ hw ls hlv hL H locs cells slots a b)
        · exact hw.elim
      · exact hw.elim
    | dup2 =>
      obtain rfl : n = 1 := eq_of_beq h1
      simp only [wpb] at hw
      split at hw
      · split at hw
        · rename_i hc1 hc2
          exact fun H locs cells slots a b => lv_dup2_11 hx hb hd (c1_cat hc1) (c1_cat hc2) (ih _ hr _ _ _ hw ls hlv hL H locs cells slots a b)
        · exact hw.elim
      · exact hw.elim
    | ldc idx =>
      have h1 := Bool.and_eq_true_iff.mp h1
      obtain rfl : n = 2 := eq_of_beq h1.1
      simp only [wpb] at hw
      split at hw
      · exact fun H locs cells slots a b => lv_ldc hx hb hown (hts _ (gl_in h1.2 rfl)) hd (ih _ hr _ _ _ hw ls hlv hL H locs cells slots a b)
      · exact J_ldcM C h1.2 hd (ih _ hr _ _ _ hw ls hlv hL)
      · exact hw.elim
    | ldc_w idx =>
      have h1 := Bool.and_eq_true_iff.mp h1
      obtain rfl : n = 3 := eq_of_beq h1.1
      simp only [wpb] at hw
      split at hw
      · exact fun H locs cells slots a b => lv_ldcw hx hb hown (hts _ (gl_in h1.2 rfl)) hd (ih _ hr _ _ _ hw ls hlv hL H locs cells slots a b)
      · exact hw.elim
    | ldc2_w idx =>
      have h1 := Bool.and_eq_true_iff.mp h1
      obtain rfl : n = 3 := eq_of_beq h1.1
      simp only [wpb] at hw
      split at hw
      · exact fun H locs cells slots a b => lv_ldc2 hx hb hown (hts _ (gl_in h1.2 rfl)) hd (ih _ hr _ _ _ hw ls hlv hL H locs cells slots a b)
      · exact hw.elim
    | iload x =>
      obtain rfl : n = 2 := eq_of_beq h1
      simp only [wpb] at hw
      split at hw
      · rename_i v hv
        exact fun H locs cells slots a b => lv_iload hx hb hd (lvl_at hlv hv (fun _ z => by cases z)) (ih _ hr _ _ _ hw ls hlv hL H locs cells slots a b)
      · exact hw.elim
    | iload_n x =>
      obtain rfl : n = 1 := eq_of_beq h1
      simp only [wpb] at hw
      split at hw
      · rename_i v hv
        exact fun H locs cells slots a b => lv_iload_n hx hb hd rfl (lvl_at hlv hv (fun _ z => by cases z)) (ih _ hr _ _ _ hw ls hlv hL H locs cells slots a b)
      · exact hw.elim
    | aload x =>
      obtain rfl : n = 2 := eq_of_beq h1
      simp only [wpb] at hw
      split at hw
      · rename_i v hv
        exact fun H locs cells slots a b => lv_aload hx hb hd (lvl_at hlv hv (fun _ z => by cases z)) (ih _ hr _ _ _ hw ls hlv hL H locs cells slots a b)
      · rename_i hv
        exact fun H locs cells slots a b => lv_aloadN hx hb hd (lvl_at hlv hv (fun _ z => by cases z)) (ih _ hr _ _ _ hw ls hlv hL H locs cells slots a b)
      · exact hw.elim
    | aload_n x =>
      obtain rfl : n = 1 := eq_of_beq h1
      simp only [wpb] at hw
      split at hw
      · rename_i v hv
        exact fun H locs cells slots a b => lv_aload_n hx hb hd rfl (lvl_at hlv hv (fun _ z => by cases z)) (ih _ hr _ _ _ hw ls hlv hL H locs cells slots a b)
      · rename_i hv
        exact fun H locs cells slots a b => lv_aload_nN hx hb hd rfl (lvl_at hlv hv (fun _ z => by cases z)) (ih _ hr _ _ _ hw ls hlv hL H locs cells slots a b)
      · exact hw.elim
    | istore x =>
      have h1 := Bool.and_eq_true_iff.mp h1
      obtain rfl : n = 2 := eq_of_beq h1.1
      have hxl : x < L.length := by rw [hL]; exact Nat.blt_eq.mp h1.2
      simp only [wpb] at hw
      split at hw
      · exact fun H locs cells slots a b => lv_istore hx hb hd hlv.1 hxl rfl (fun ls2 hl2 => ih _ hr _ _ _ hw ls2 (lvl_set hl2 hlv.2 rfl hxl) (by rw [List.length_set]; exact hL) H locs cells slots a b)
      · exact hw.elim
    | istore_n x =>
      have h1 := Bool.and_eq_true_iff.mp h1
      obtain rfl : n = 1 := eq_of_beq h1.1
      have hxl : x.val < L.length := by rw [hL]; exact Nat.blt_eq.mp h1.2
      simp only [wpb] at hw
      split at hw
      · exact fun H locs cells slots a b => lv_istore_n hx hb hd rfl hlv.1 hxl rfl (fun ls2 hl2 => ih _ hr _ _ _ hw ls2 (lvl_set hl2 hlv.2 rfl hxl) (by rw [List.length_set]; exact hL) H locs cells slots a b)
      · exact hw.elim
    | astore x =>
      have h1 := Bool.and_eq_true_iff.mp h1
      obtain rfl : n = 2 := eq_of_beq h1.1
      have hxl : x < L.length := by rw [hL]; exact Nat.blt_eq.mp h1.2
      simp only [wpb] at hw
      split at hw
      · exact fun H locs cells slots a b => lv_astore hx hb hd hlv.1 hxl rfl (fun ls2 hl2 => ih _ hr _ _ _ hw ls2 (lvl_set hl2 hlv.2 rfl hxl) (by rw [List.length_set]; exact hL) H locs cells slots a b)
      · exact fun H locs cells slots a b => lv_astoreN hx hb hd hlv.1 hxl rfl (fun ls2 hl2 => ih _ hr _ _ _ hw ls2 (lvl_set hl2 hlv.2 rfl hxl) (by rw [List.length_set]; exact hL) H locs cells slots a b)
      · exact hw.elim
    | astore_n x =>
      have h1 := Bool.and_eq_true_iff.mp h1
      obtain rfl : n = 1 := eq_of_beq h1.1
      have hxl : x.val < L.length := by rw [hL]; exact Nat.blt_eq.mp h1.2
      simp only [wpb] at hw
      split at hw
      · exact fun H locs cells slots a b => lv_astore_n hx hb hd rfl hlv.1 hxl rfl (fun ls2 hl2 => ih _ hr _ _ _ hw ls2 (lvl_set hl2 hlv.2 rfl hxl) (by rw [List.length_set]; exact hL) H locs cells slots a b)
      · exact fun H locs cells slots a b => lv_astore_nN hx hb hd rfl hlv.1 hxl rfl (fun ls2 hl2 => ih _ hr _ _ _ hw ls2 (lvl_set hl2 hlv.2 rfl hxl) (by rw [List.length_set]; exact hL) H locs cells slots a b)
      · exact hw.elim
    | iinc x k =>
      have h1 := Bool.and_eq_true_iff.mp h1
      obtain rfl : n = 3 := eq_of_beq h1.1
      have hxl : x < L.length := by rw [hL]; exact Nat.blt_eq.mp h1.2
      simp only [wpb] at hw
      split at hw
      · rename_i v hv
        obtain ⟨k9, hk9⟩ := List.getElem?_of_mem (mem_prs.mpr ⟨hv, fun _ z => by cases z⟩)
        exact fun H locs cells slots a b => lv_iinc hx hb hd hlv.1 hk9 rfl hxl rfl (fun ls2 hl2 => ih _ hr _ _ _ hw ls2 (lvl_set hl2 hlv.2 rfl hxl) (by rw [List.length_set]; exact hL) H locs cells slots a b)
      · exact hw.elim
    | ifCond cnd off =>
      have h1 := Bool.and_eq_true_iff.mp h1
      obtain rfl : n = 3 := eq_of_beq h1.1
      simp only [wpb] at hw
      split at hw
      · exact J_if0 hx hb hw hd (of_decide_eq_true h1.2) (fun z => hK _ _ _ _ z ls hlv hL) (fun z => ih _ hr _ _ _ z ls hlv hL)
      · exact hw.elim
    | if_icmp cnd off =>
      have h1 := Bool.and_eq_true_iff.mp h1
      obtain rfl : n = 3 := eq_of_beq h1.1
      simp only [wpb] at hw
      split at hw
      · exact J_ifI hx hb hw hd (of_decide_eq_true h1.2) (fun z => hK _ _ _ _ z ls hlv hL) (fun z => ih _ hr _ _ _ z ls hlv hL)
      · exact hw.elim
    | if_acmp cnd off =>
      obtain rfl : n = 3 := eq_of_beq (Bool.and_eq_true_iff.mp h1).1
      simp only [wpb] at hw
      split at hw
      · exact fun H locs cells slots a b => lv_acmp_eq (rx := some _) (ry := some _) hx hb hd (of_decide_eq_true h1) (fun z => hK _ _ _ _ (hw.1 (Option.some.inj z)) ls hlv hL H locs cells slots a b) (fun z => ih _ hr _ _ _ (hw.2 (fun z2 => z (congrArg some z2))) ls hlv hL H locs cells slots a b)
      · exact fun H locs cells slots a b => lv_acmp_ne (rx := some _) (ry := some _) hx hb hd (of_decide_eq_true h1) (fun z => hK _ _ _ _ (hw.1 (fun z2 => z (congrArg some z2))) ls hlv hL H locs cells slots a b) (fun z => ih _ hr _ _ _ (hw.2 (Option.some.inj z)) ls hlv hL H locs cells slots a b)
      · exact hw.elim
    | ifnonnull off =>
      have h1 := Bool.and_eq_true_iff.mp h1
      obtain rfl : n = 3 := eq_of_beq h1.1
      simp only [wpb] at hw
      split at hw
      · exact fun H locs cells slots a b => lv_ifnonnull hx hb hd (of_decide_eq_true h1.2) (hK _ _ _ _ hw ls hlv hL H locs cells slots a b)
      · exact fun H locs cells slots a b => lv_ifnonnullN hx hb hd (ih _ hr _ _ _ hw ls hlv hL H locs cells slots a b)
      · exact hw.elim
    | goto off =>
      have h1 := Bool.and_eq_true_iff.mp h1
      obtain rfl : n = 3 := eq_of_beq h1.1
      simp only [wpb] at hw
      split at hw
      · exact fun H locs cells slots a b => lv_goto hx hb hd (of_decide_eq_true h1.2) (hK _ _ _ _ hw ls hlv hL H locs cells slots a b)
      · exact hw.elim
    | tableswitch dflt lo hi offs =>
      simp only [wpb] at hw
      split at hw
      · simp only [chk1, Bool.and_eq_true, decide_eq_true_eq] at h1
        exact J_tab (KK := fun t => K t L _ h) hx hb hw hd h1.1.1 h1.1.2 h1.2 (fun t z => hK _ _ _ _ z ls hlv hL)
      · exact hw.elim
    | getfield idx =>
      have h1 := Bool.and_eq_true_iff.mp h1
      obtain rfl : n = 3 := eq_of_beq h1.1
      simp only [wpb] at hw
      split at hw
      · obtain ⟨vs, v, g1, g2, g3⟩ := gfk_elim hw
        exact J_get C g1 g2 h1.2 hd (ih _ hr _ _ _ g3 ls hlv hL)
      · exact hw.elim
    | putfield idx =>
      have h1 := Bool.and_eq_true_iff.mp h1
      obtain rfl : n = 3 := eq_of_beq h1.1
      simp only [wpb] at hw
      split at hw
      · obtain ⟨vs, g1, g2, g3, g4⟩ := hw
        have h2 := Bool.and_eq_true_iff.mp h1.2
        exact J_put C hini g1 g2 g3 h2.1 h2.2 hd (ih _ hr _ _ _ (g4 _ rfl) ls hlv hL)
      · exact hw.elim
    | getstatic idx =>
      have h1 := Bool.and_eq_true_iff.mp h1
      obtain rfl : n = 3 := eq_of_beq h1.1
      simp only [wpb] at hw
      split at hw
      · exact J_gets C h1.2 hd (ih _ hr _ _ _ hw ls hlv hL)
      · exact hw.elim
    | new idx =>
      have h1 := Bool.and_eq_true_iff.mp h1
      obtain rfl : n = 3 := eq_of_beq h1.1
      simp only [wpb] at hw
      split at hw
      · exact J_new C h1.2 hw.1 hw.2.1 hd (ih _ hr _ _ _ (hw.2.2 _ _ rfl rfl) ls hlv hL)
      · exact hw.elim
    | newarray aty =>
      have h1 := Bool.and_eq_true_iff.mp h1
      obtain rfl : n = 2 := eq_of_beq h1.1
      simp only [wpb] at hw
      split at hw
      · have h2 := h1.2
        simp only [Bool.or_eq_true, Bool.and_eq_true, decide_eq_true_eq, beq_iff_eq] at h2
        exact J_newa C h2 hw.1 hw.2.1 hw.2.2.1 hw.2.2.2.1 hd (ih _ hr _ _ _ (hw.2.2.2.2 _ _ rfl rfl) ls hlv hL)
      · exact hw.elim
    | anewarray idx =>
      have h1 := Bool.and_eq_true_iff.mp h1
      obtain rfl : n = 3 := eq_of_beq h1.1
      simp only [wpb] at hw
      split at hw
      · have h2 := h1.2
        simp only [Bool.and_eq_true, Nat.ble_eq, Nat.blt_eq] at h2
        obtain ⟨⟨t1, t2⟩, h3⟩ := h2
        split at h3
        · rename_i A hA
          exact J_anew C t1 t2 hA h3 hw.1 hw.2.1 hw.2.2.1 hw.2.2.2.1 hd (ih _ hr _ _ _ (hw.2.2.2.2 _ _ rfl rfl) ls hlv hL)
        · cases h3
      · exact hw.elim
    | arraylength =>
      obtain rfl : n = 1 := eq_of_beq h1
      simp only [wpb] at hw
      split at hw
      · obtain ⟨t, vs, g1, g2, g3⟩ := hw
        exact J_alen C g1 g2 hd (ih _ hr _ _ _ g3 ls hlv hL)
      · exact hw.elim
    | iaload =>
      obtain rfl : n = 1 := eq_of_beq h1
      simp only [wpb] at hw
      split at hw
      · obtain ⟨t, vs, x, g1, g2, g3, g4, g5⟩ := hw
        exact J_iald C g1 g2 g3 g4 hd (ih _ hr _ _ _ g5 ls hlv hL)
      · exact hw.elim
    | baload =>
      obtain rfl : n = 1 := eq_of_beq h1
      simp only [wpb] at hw
      split at hw
      · obtain ⟨vs, x, g1, g3, g4, g5⟩ := hw
        exact J_zald C g1 g3 g4 hd (ih _ hr _ _ _ g5 ls hlv hL)
      · exact hw.elim
    | aaload =>
      obtain rfl : n = 1 := eq_of_beq h1
      simp only [wpb] at hw
      split at hw
      · obtain ⟨t, vs, x, g1, g2, g3, g4, g5⟩ := hw
        exact J_aald C g1 g2 g3 g4 hd (ih _ hr _ _ _ g5 ls hlv hL)
      · exact hw.elim
    | iastore =>
      obtain rfl : n = 1 := eq_of_beq h1
      simp only [wpb] at hw
      split at hw
      · obtain ⟨vs, g1, g2, g3, g4⟩ := hw
        exact J_iast C g1 g2 g3 hd (ih _ hr _ _ _ (g4 _ rfl) ls hlv hL)
      · exact hw.elim
    | bastore =>
      obtain rfl : n = 1 := eq_of_beq h1
      simp only [wpb] at hw
      split at hw
      · obtain ⟨vs, g1, g2, g3, g4, g5⟩ := hw
        exact J_zast C g1 g2 g3 g4 hd (ih _ hr _ _ _ (g5 _ rfl) ls hlv hL)
      · exact hw.elim
    | aastore =>
      obtain rfl : n = 1 := eq_of_beq h1
      simp only [wpb] at hw
      split at hw
      · obtain ⟨t, tb, vs, ws, g1, g2, g3, g4, g5, g6⟩ := hw
        exact J_aast C g1 g2 g3 g4 g5 hd (ih _ hr _ _ _ (g6 _ rfl) ls hlv hL)
      · obtain ⟨t, vs, g1, g2, g3, g4, g5⟩ := hw
        exact J_aastN C g1 g2 g3 g4 hd (ih _ hr _ _ _ (g5 _ rfl) ls hlv hL)
      · exact hw.elim
    | checkcast idx =>
      have h1 := Bool.and_eq_true_iff.mp h1
      obtain rfl : n = 3 := eq_of_beq h1.1
      simp only [wpb] at hw
      split at hw
      · obtain ⟨vs, g1, g2⟩ := hw
        have h2 := Bool.and_eq_true_iff.mp h1.2
        exact J_cast C g1 h2.1 h2.2 hd (ih _ hr _ _ _ g2 ls hlv hL)
      · exact hw.elim
    | invokevirtual idx =>
      have h1 := Bool.and_eq_true_iff.mp h1
      obtain rfl : n = 3 := eq_of_beq h1.1
      simp only [wpb] at hw
      split at hw
      · split at hw
        · rename_i hb1 hb2 hst
          obtain ⟨⟨vs, g1⟩, Q', g2, g3⟩ := hw
          have h2 := h1.2
          simp only [Bool.and_eq_true, Nat.ble_eq, Nat.blt_eq, beq_iff_eq] at h2
          obtain ⟨⟨⟨⟨⟨⟨⟨c1, c2⟩, c3⟩, c4⟩, c5⟩, c6⟩, c7⟩, c8⟩ := h2
          exact J_callV C (hM _ c1) c2 c3 c6 c7 c4 c5 c8 hsz (Nat.ble_eq.mp hb2) hst g1 (hE _ _ _ _ g2) hd (fun rv h' hq => ih _ hr _ _ _ (rvk_elim (g3 rv h' hq)) ls hlv hL)
        · exact hw.elim
      · split at hw
        · split at hw
          · rename_i hb4
            obtain ⟨⟨vs, g1⟩, g2⟩ := hw
            exact J_getC C h1.2 g1 hsz (Nat.ble_eq.mp hb4) hd (ih _ hr _ _ _ g2 ls hlv hL)
          · exact hw.elim
        · exact hw.elim
      · exact hw.elim
    | invokespecial idx =>
      have h1 := Bool.and_eq_true_iff.mp h1
      obtain rfl : n = 3 := eq_of_beq h1.1
      simp only [wpb] at hw
      split at hw
      · split at hw
        · rename_i hb1 hb2 hst
          obtain ⟨Q', g2, g3⟩ := hw
          have h2 := h1.2
          simp only [Bool.and_eq_true, Bool.or_eq_true, Nat.blt_eq, beq_iff_eq, decide_eq_true_eq] at h2
          obtain ⟨⟨⟨⟨⟨c1, c2⟩, c3⟩, c4⟩, c5⟩, c6⟩ := h2
          exact J_callI C (hM _ c1) c2 c3 c4 c5 c6 hsz (Nat.ble_eq.mp hb2) hst (hE _ _ _ _ g2) hd (fun rv h' hq => ih _ hr _ _ _ (rvk_elim (g3 rv h' hq)) ls hlv hL)
        · exact hw.elim
      · split at hw
        · split at hw
          · rename_i hb4
            exact J_objInit C h1.2 hsz (Nat.ble_eq.mp hb4) hd (ih _ hr _ _ _ hw ls hlv hL)
          · exact hw.elim
        · exact hw.elim
      · exact hw.elim
    | invokestatic idx =>
      have h1 := Bool.and_eq_true_iff.mp h1
      obtain rfl : n = 3 := eq_of_beq h1.1
      simp only [wpb] at hw
      split at hw
      · split at hw
        · rename_i hb1 hb2
          obtain ⟨Q', g2, g3⟩ := hw
          have h2 := h1.2
          simp only [Bool.and_eq_true, Nat.blt_eq, beq_iff_eq] at h2
          obtain ⟨⟨⟨c1, c2⟩, c3⟩, c4⟩ := h2
          exact J_callS C (hM _ c1) c2 c3 c4 hsz (Nat.ble_eq.mp hb1) (Nat.ble_eq.mp hb2) (hE _ _ _ _ g2) hd (fun rv h' hq => ih _ hr _ _ _ (rvk_elim (g3 rv h' hq)) ls hlv hL)
        · exact hw.elim
      · split at hw
        · split at hw
          · rename_i hb4
            exact J_max C h1.2 hsz (Nat.ble_eq.mp hb4) hd (ih _ hr _ _ _ hw ls hlv hL)
          · exact hw.elim
        · exact hw.elim
      · split at hw
        · split at hw
          · rename_i hb4
            exact J_min C h1.2 hsz (Nat.ble_eq.mp hb4) hd (ih _ hr _ _ _ hw ls hlv hL)
          · exact hw.elim
        · exact hw.elim
      · split at hw
        · split at hw
          · rename_i hb4
            obtain ⟨v0, v1, g1, g2, g3, g4, g5, g6, g7, g8, g9, g10⟩ := hw
            exact J_copy C h1.2 hsz (Nat.ble_eq.mp hb4) g1 g2 g3 g4 g5 g6 g7 g8 g9 hd (ih _ hr _ _ _ (g10 _ rfl) ls hlv hL)
          · exact hw.elim
        · exact hw.elim
      · exact hw.elim
    | ireturn =>
      have h1 := Bool.and_eq_true_iff.mp h1
      obtain rfl : n = 1 := eq_of_beq h1.1
      simp only [wpb] at hw
      split at hw
      · exact hri pc ls h _ hd (Or.inl (of_decide_eq_true h1.2)) hw
      · exact hri pc ls h _ hd (Or.inr ⟨of_decide_eq_true h1.2, hw.1⟩) hw.2
      · exact hw.elim
    | lreturn =>
      have h1 := Bool.and_eq_true_iff.mp h1
      obtain rfl : n = 1 := eq_of_beq h1.1
      simp only [wpb] at hw
      split at hw
      · exact hrl pc ls h _ hd (of_decide_eq_true h1.2) hw
      · exact hw.elim
    | areturn =>
      have h1 := Bool.and_eq_true_iff.mp h1
      obtain rfl : n = 1 := eq_of_beq h1.1
      have hrt : ∃ rt', rt = some rt' ∧ ((∃ n, rt' = .object n) ∨ ∃ t, rt' = .array t) := by
        have h2 := h1.2
        split at h2
        · exact ⟨_, rfl, Or.inl ⟨_, rfl⟩⟩
        · exact ⟨_, rfl, Or.inr ⟨_, rfl⟩⟩
        · cases h2
      simp only [wpb] at hw
      split at hw
      · exact hra pc ls h _ hd hrt (Or.inr ⟨_, rfl⟩) hw
      · exact hra pc ls h _ hd hrt (Or.inl rfl) hw
      · exact hw.elim
    | return_ =>
      have h1 := Bool.and_eq_true_iff.mp h1
      obtain rfl : n = 1 := eq_of_beq h1.1
      simp only [wpb] at hw
      split at hw
      · exact hrv pc ls h hd (of_decide_eq_true h1.2) hw
      · exact hw.elim
    | _ => exact False.elim hw
end SND8
end
section
theorem lkb_chk {own : String} {cc : ByteArray} {nL : Nat} {rt : Option FieldType} {ini : Bool} {b : List (Nat × List Ins)} (h : chkB own cc nL rt ini b = true) (pc : Nat) : chk own cc nL rt ini (lkb b pc) pc = true := by
  unfold chkB at h
  induction b with
  | nil => rfl
  | cons x r ih =>
    obtain ⟨p0, b0⟩ := x
    rw [List.all_cons, Bool.and_eq_true] at h
    unfold lkb
    by_cases hp : p0 = pc
    · rw [if_pos hp, ← hp]
      exact h.1
    · rw [if_neg hp]
      exact ih h.2
theorem sl_c1 {As : List Value} (h : ∀ v ∈ As, v.category = 1) : lg_sl As = As.map Slot.val := by
  induction As with
  | nil => rfl
  | cons a r ih =>
    have h1 := h a List.mem_cons_self
    have e : lg_sl (a :: r) = (if a.category = 2 then [.val a, .second] else [.val a]) ++ lg_sl r := rfl
    rw [e, ih (fun v hv => h v (List.mem_cons_of_mem _ hv)), h1]
    rfl
theorem lvl_entry {As : List Value} {n : Nat} (h : ∀ v ∈ As, v.category = 1) (hn : As.length ≤ n) : lvl ((lg_sl As ++ List.replicate (n - (lg_sl As).length) Slot.unset).toArray) (As ++ List.replicate (n - As.length) (.retAddr 0)) := by
  have hl : (lg_sl As).length = As.length := by rw [sl_c1 h, List.length_map]
  have hL : (As ++ List.replicate (n - As.length) (Value.retAddr 0)).length = n := by rw [List.length_append, List.length_replicate]; omega
  obtain ⟨e1, e2, -⟩ := lv_entry As (n := n) (by rw [hl]; exact hn)
  refine ⟨⟨by rw [hL]; exact e1, e2, fun q hq => ?_⟩, fun v hv => ?_⟩
  · obtain ⟨i, v⟩ := q
    obtain ⟨g1, g2⟩ := mem_prs.mp hq
    by_cases hi : i < As.length
    · rw [List.getElem?_append_left hi] at g1
      show ((lg_sl As ++ _).toArray)[i]? = some (.val v)
      rw [List.getElem?_toArray, List.getElem?_append_left (by rw [hl]; exact hi), sl_c1 h, List.getElem?_map, g1]
      rfl
    · rw [List.getElem?_append_right (by omega)] at g1
      have := List.mem_of_getElem? g1
      rw [List.mem_replicate] at this
      exact absurd this.2 (g2 0)
  · rcases List.mem_append.mp hv with g | g
    · exact h v g
    · rw [(List.mem_replicate.mp g).2]
      rfl
theorem Tf_sound {p : Program} {l : Launch} {e : Env} {R : Room} {s : State} {m : MethodId} {args : Array Value} {below : List Frame} {meth : Method} {c : Code} {D : va_G} {tys : List (ClassId × FieldType)} {H0 : Heap} {LC LS : Nat} {gc : Nat → Nat} {cc : ByteArray} {nL : Nat} {own : String} {h0 : AH} {dd : Nat} {Q : State → Prop}
    {E : Nat → List Value → AH → PT → Prop} {q : PT} {rt : Option FieldType} {ini : Bool} {bks : List (Nat × List Ins)} (C : Cx p R s m args c D tys H0 LC LS gc cc nL own h0 dd) (hini : ini = true → meth.name = "<init>")
    (hE : ∀ (j : Nat) (As : List Value) (h : AH) (Q' : PT), E j As h Q' → MetD l D tys H0 LC LS gc dd j As h Q') (hM : ∀ j, j < mI.length → chkM j = true) (hB : chkB own cc nL rt ini bks = true)
    (hri : ∀ (pc : Nat) (ls : Array Slot) (h : AH) (x : Int32), decode cc pc = .ok (.ireturn, 1) → (rt = some .int ∨ (rt = some .boolean ∧ (x = 0 ∨ x = 1))) → q (some (.int x)) h → J p l e R s m args below meth c D vwc tys H0 LC LS Q h (F0 m pc ls [.int x]))
    (hrl : ∀ (pc : Nat) (ls : Array Slot) (h : AH) (x : Int64), decode cc pc = .ok (.lreturn, 1) → rt = some .long → q (some (.long x)) h → J p l e R s m args below meth c D vwc tys H0 LC LS Q h (F0 m pc ls [.long x]))
    (hra : ∀ (pc : Nat) (ls : Array Slot) (h : AH) (v : Value), decode cc pc = .ok (.areturn, 1) → (∃ rt', rt = some rt' ∧ ((∃ n, rt' = .object n) ∨ ∃ t, rt' = .array t)) → (v = .null ∨ ∃ a, v = .ref a) → q (some v) h → J p l e R s m args below meth c D vwc tys H0 LC LS Q h (F0 m pc ls [v]))
    (hrv : ∀ (pc : Nat) (ls : Array Slot) (h : AH), decode cc pc = .ok (.return_, 1) → rt = none → q none h → J p l e R s m args below meth c D vwc tys H0 LC LS Q h (F0 m pc ls []))
    {pc : Nat} {L st : List Value} {h : AH} (hT : Tf gc E bks q pc L st h) {ls : Array Slot} (hlv : lvl ls L) (hL : L.length = nL) : J p l e R s m args below meth c D vwc tys H0 LC LS Q h (F0 m pc ls st) := by
  refine hT (fun pc L st h => ∀ ls, lvl ls L → L.length = nL → J p l e R s m args below meth c D vwc tys H0 LC LS Q h (F0 m pc ls st)) ?_ ls hlv hL
  rintro pc L st h ⟨K, hK, hw⟩ ls hlv hL
  exact wpb_sound C hini hE hM hK hri hrl hra hrv _ pc (lkb_chk hB pc) L st h hw ls hlv hL
/-- WHAT THE PREDICATE SAYS OF A METHOD IS ITS CONTRACT -/
theorem WP_sound (l : Launch) {D : va_G} {tys : List (ClassId × FieldType)} {H0 : Heap} {LC LS : Nat} {gc : Nat → Nat} (hM : ∀ j, j < mI.length → chkM j = true) : ∀ (d j : Nat) (As : List Value) (h : AH) (q : PT), WP gc d j As h q → MetD l D tys H0 LC LS gc d j As h q := by
  intro d
  induction d with
  | zero => intro j As h q hw; exact False.elim hw
  | succ d ih =>
    intro j As h q hw
    by_cases hj : j < mI.length
    · have hk := hM j hj
      obtain ⟨m1, m2, m3, m4, m5, m6, m7, m8⟩ := mcode hk
      simp only [WP] at hw
      split at hw
      · rename_i a1 a2
        obtain ⟨q0, hsub, hw⟩ := hw
        have hc1 : ∀ v ∈ As, v.category = 1 := fun v hv => c1_cat (List.all_eq_true.mp a1 v hv)
        have hlen : As.length ≤ mL j := Nat.ble_eq.mp a2
        unfold MetD
        refine Met.ofW (cc := mB j) (maxL := mL j) (ret := mR j) m1 rfl ?_
        intro p e s m args below meth c s₁ B hml hv
        obtain ⟨rfl, hR, hKX⟩ := hv
        have hx := B.exec
        have hb := B.bytes
        have hr := B.returns
        have hts0 := atoms_spec (ws := wsj j) B.pre
        have hown : s.vm.findClass (mY j).cls = some m.cls := findClass_of_methodNamed B.named
        have hlocks := B.notSynchronized
        have hnm : meth.name = (mY j).name := (name_of_methodNamed B.named B.method).1
        have C : Cx p (rmD (d + 1) h) s m As.toArray c D tys H0 LC LS gc (mB j) (mL j) (mY j).cls h d := ⟨hx, hb, hml, hown, fun w hw => hts0 w (List.mem_cons_of_mem _ hw), hKX, hR, Nat.le_refl _, by show 31 * d + 31 ≤ 31 * (d + 1); omega, Nat.le_refl _, Nat.le_refl _⟩
        rw [lg_entry_eq]
        refine Tf_sound (l := l) (e := e) (below := below) (meth := meth) (ini := decide ((mY j).name = "<init>")) C (fun z => hnm.trans (of_decide_eq_true z)) ih hM m8 ?_ ?_ ?_ ?_ hw (lvl_entry hc1 hlen) (by rw [List.length_append, List.length_replicate]; omega) s.heap [] 0 0 hR (fun x hx => by cases hx)
        · intro pc ls h' x hd hrt hq H locs cells slots hR' hl
          refine J_tg hR hR' (fun z1 z2 => W.widen (k := h.2.1) (n := h.2.2.1) (by omega) (by omega) ?_)
          rcases hrt with hrt | ⟨hrt, hx01⟩
          · exact W.iret hx hb (by rw [hr]; exact hrt) (fun t ht hW => ⟨_, h', rfl, by rw [ht]; exact hR', hsub _ _ hq⟩) hl hd
          · exact W.zret (ty := .boolean) hx hb (by rw [hr]; exact hrt) (by rcases hx01 with z | z <;> subst z <;> decide) (fun t ht hW => ⟨_, h', rfl, by rw [ht]; exact hR', hsub _ _ hq⟩) hl hd
        · intro pc ls h' x hd hrt hq H locs cells slots hR' hl
          refine J_tg hR hR' (fun z1 z2 => W.widen (k := h.2.1) (n := h.2.2.1) (by omega) (by omega) ?_)
          exact W.lret hx hb (by rw [hr]; exact hrt) (fun t ht hW => ⟨_, h', rfl, by rw [ht]; exact hR', hsub _ _ hq⟩) hl hd
        · intro pc ls h' v hd hrt hv hq H locs cells slots hR' hl
          refine J_tg hR hR' (fun z1 z2 => W.widen (k := h.2.1) (n := h.2.2.1) (by omega) (by omega) ?_)
          obtain ⟨rt', hrt1, hrt2⟩ := hrt
          exact W.aret hx hb (by rw [hr]; exact hrt1) hrt2 hv (fun t ht hW => ⟨_, h', rfl, by rw [ht]; exact hR', hsub _ _ hq⟩) hl hd
        · intro pc ls h' hd hrt hq H locs cells slots hR' hl
          refine J_tg hR hR' (fun z1 z2 => W.widen (k := h.2.1) (n := h.2.2.1) (by omega) (by omega) ?_)
          exact W.vret hx hb (by rw [hr]; exact hrt) (fun t ht hW => ⟨_, h', rfl, by rw [ht]; exact hR', hsub _ _ hq⟩) hl hd
      · exact False.elim hw
    · exfalso
      have hb : mbk j = [] := by
        unfold mbk
        rw [List.getElem?_eq_none (by have : bkL.length = mI.length := by decide +kernel
                                      omega)]
        rfl
      simp only [WP] at hw
      split at hw
      · obtain ⟨q0, -, hw⟩ := hw
        rw [hb] at hw
        exact hw (fun _ _ _ _ => False) (fun pc L st h ⟨K, hK, hw⟩ => hK _ _ _ _ hw)
      · exact hw
end
section
/-! THE LAW'S START: what is left to show is pure (LawPure). -/
def LawPure : Prop := ∀ (gc : Nat → Nat) (h : AH) (xs : List Int32), xs.length ≤ 3072 → gc 1 ≠ gc 2 → at_ h (gc 2) 200 (xs.map Value.int) → at_ h (gc 1) 201 [] → (∀ a : Nat, a ≠ gc 1 → a ≠ gc 2 → (h.2.2.2 a).1 = 0) → gc 1 < h.1 → gc 2 < h.1 → h.2.1 = 600000 → h.2.2.1 = 7302250 →
  Tf gc (WP gc 13) bk_law (fun r _ => r = some (.int 1)) 0 [.ref (gc 2), .retAddr 0, .retAddr 0, .retAddr 0] [] h
theorem isArr_ne {s : State} {c1 c2 : Cell} {n : String} (h1 : s.isArrayOf c1 .int) (h2 : s.isArrayOf c2 (.object n)) : c1 ≠ c2 := by
  rintro rfl
  obtain ⟨-, k, hk, comp, hkind⟩ := h1
  obtain ⟨-, k', hk', comp', hkind'⟩ := h2
  cases hk.symm.trans hk'
  rw [hkind] at hkind'
  cases hkind'
theorem arrO {s : State} {C : String} {A : Array Value} (h : (Cond.arrayOver (.object C)).before A s = true) : ∃ cA : ClassId, ArrOfT s cA (.object C) ∧ va_RA s cA (.object C) := by
  obtain ⟨comp, c, k, h1, h2, h3, h4, h5⟩ := Cond.arrayOver_spec h
  exact ⟨c, fun N z => ⟨(fun k h => by cases h), k, h3, comp, h4⟩, k, comp, h3, h4, h1, h5⟩
theorem arrC {s : State} {ty : FieldType} {A : Array Value} (hty : ty = .int ∨ ty = .boolean) (h : (Cond.arrayClass ty).before A s = true) : ∃ cA : ClassId, ArrOfT s cA ty ∧ va_RA s cA ty := by
  obtain ⟨c, k, comp, h1, h2, h3⟩ := Cond.arrayClass_spec h
  refine ⟨c, fun N z => ⟨(fun k h => by cases h), k, h2, comp, h3⟩, ?_⟩
  rcases hty with rfl | rfl <;> exact h1
theorem tb_at {i : Nat} {x : Cond} (h : lw_is i x = true) {A : Array Value} {s : State} (hts : ∀ w ∈ lw_tbl, w.before A s = true) : x.before A s = true := hts x (tb_in h)
theorem ao0 : lw_is 78 (Cond.arrayOver (.object "QueueBroker$Exchange")) = true := by decide +kernel
theorem ao1 : lw_is 80 (Cond.arrayOver (.object "QueueBroker$Queue")) = true := by decide +kernel
theorem ao2 : lw_is 82 (Cond.arrayOver (.object "QueueBroker$Channel")) = true := by decide +kernel
theorem ao3 : lw_is 332 (Cond.arrayOver (.object "java/lang/Object")) = true := by decide +kernel
theorem ls0 : lw_is 96 (Cond.laysStatic "java/util/ArrayList" "DEFAULTCAPACITY_EMPTY_ELEMENTDATA" "[Ljava/lang/Object;") = true := by decide +kernel
set_option maxHeartbeats 4000000 in
theorem whole_open (HP : LawPure) {p : Program} {e : Env} {s : State} {m : MethodId} {below : List Frame} {meth : Method} {c : Code} (l : Launch) {b L : Nat} {xs : Nat → Int32} (hL : L ≤ 3072) (hM : ∀ j, j < mI.length → chkM j = true) (hB : chkB R_law code 4 ret false bk_law = true) (C0 : lw_At p s m meth c b L xs) : W p l e room_1 s m #[Value.ref b] below meth c s.heap [] 0 0 (lw_Z below #[Value.ref b] s) (entryFrame m ([Value.ref b] : List Value).toArray 4) := by
  obtain ⟨hx, hb, hr, hml, hown, hts, hX, hbl, hlocks, hgv⟩ := id C0
  -- the classes
  have hkn : ∀ k : Nat, ∃ (cC : ClassId) (iS : Nat → Nat), ∀ q : vw_C, vwc[k]? = some q → u_Kn s q.1 q.2.1 q.2.2 cC iS := by
    intro k
    cases hk : vwc[k]? with
    | none => exact ⟨0, fun _ => 0, fun q hq => by cases hq⟩
    | some q =>
      obtain ⟨h1, -, -, h4, -⟩ := cls_spec hk
      obtain ⟨cC, iS, h5⟩ := u_known (C := q.1) (T := q.2.1) (N := q.2.2) (n := q.2.2) (ws := GL) (fun w hw => hts w (List.mem_filter.mp hw).1) h1 (hts _ (List.mem_filter.mp h4).1)
      exact ⟨cC, iS, fun q' hq' => by cases hq'; exact h5⟩
  obtain ⟨a0, f0, g0⟩ := arrO (tb_at ao0 hts)
  obtain ⟨a1, f1, g1⟩ := arrO (tb_at ao1 hts)
  obtain ⟨a2, f2, g2⟩ := arrO (tb_at ao2 hts)
  obtain ⟨a3, f3, g3⟩ := arrO (tb_at ao3 hts)
  obtain ⟨a4, f4, g4⟩ := arrC (Or.inl rfl) (tb_at ac_int0 hts)
  obtain ⟨a5, f5, g5⟩ := arrC (Or.inr rfl) (tb_at ac_bool0 hts)
  have hfl := flat_of_before _ hgv
  -- the static array, the class object
  have hst1 : (Cond.arrayOf (.static "java/util/ArrayList" "DEFAULTCAPACITY_EMPTY_ELEMENTDATA" "[Ljava/lang/Object;") (.object "java/lang/Object")).before #[Value.ref b] s = true := hfl _ (by decide +kernel)
  have hst2 : (Cond.eq (.length (.static "java/util/ArrayList" "DEFAULTCAPACITY_EMPTY_ELEMENTDATA" "[Ljava/lang/Object;")) (.int 0)).before #[Value.ref b] s = true := hfl _ (by decide +kernel)
  have hmi : (Cond.isRef (.mirror "[Ljava/lang/Object;")).before #[Value.ref b] s = true := hfl _ (by decide +kernel)
  obtain ⟨mi, hMi⟩ := va_Mi.of hmi
  have hA : ∀ a : Nat, a < s.heap.size → ¬ (fun q : Nat => s.heap.size ≤ q) a := fun a h => Nat.not_le.mpr h
  obtain ⟨t1, ht1, cl0, k1, k2, k3, k4, k5, k6, k7⟩ := va_Tof (N := 0) (f := fun _ => .null) (A := fun q : Nat => s.heap.size ≤ q) (by decide) hst1 (va_eqt hst2) (fun j hj => absurd hj (Nat.not_lt_zero _)) hA
  have hini : (Cond.initialized "java/util/ArrayList").before #[Value.ref b] s = true := hts _ (List.mem_filter.mp (cls_spec (c := 9) rfl).2.2.2.2.1).1
  have hZ := va_Zref (tb_at ls0 hts) hini ht1 hA
  obtain ⟨scr, x1, x2, x3, x4, x5⟩ := hX
  have hne : t1 ≠ b := fun z => isArr_ne x2 k2 (by rw [z] at k1; exact Option.some.inj (x1.symm.trans k1))
  let gc : Nat → Nat := fun k => match k with
    | 0 => mi
    | 1 => t1
    | _ => b
  let D : va_G := (fun k => Classical.choose (hkn k), fun k => Classical.choose (Classical.choose_spec (hkn k)))
  let tys : List (ClassId × FieldType) := [(a0, .object "QueueBroker$Exchange"), (a1, .object "QueueBroker$Queue"), (a2, .object "QueueBroker$Channel"), (a3, .object "java/lang/Object"), (a4, .int), (a5, .boolean)]
  let vs : List Value := (List.range L).map (fun j => Value.int (xs j))
  let h : AH := (s.heap.size, 600000, 7302250, fun a => if a = b then (200, vs) else if a = t1 then (201, []) else (0, []))
  have hscr : scr.slots = vs.toArray := by
    apply Array.ext_getElem?
    intro j
    have e9 : vs.toArray[j]? = ((List.range L).map (fun j => Value.int (xs j)))[j]? := List.getElem?_toArray
    rw [e9, List.getElem?_map]
    by_cases hj : j < L
    · rw [x5 j hj, List.getElem?_range hj]
      rfl
    · rw [Array.getElem?_eq_none (by omega), List.getElem?_eq_none (by rw [List.length_range]; omega)]
      rfl
  have hK : va_K D vwc tys s := by
    refine ⟨fun k q hq => Classical.choose_spec (Classical.choose_spec (hkn k)) q hq, fun k q hq => ?_⟩
    match k, hq with
    | 0, hq => cases hq; exact ⟨f0, g0⟩
    | 1, hq => cases hq; exact ⟨f1, g1⟩
    | 2, hq => cases hq; exact ⟨f2, g2⟩
    | 3, hq => cases hq; exact ⟨f3, g3⟩
    | 4, hq => cases hq; exact ⟨f4, g4⟩
    | 5, hq => cases hq; exact ⟨f5, g5⟩
    | k + 6, hq => simp [tys] at hq
  have hKX : KX D tys gc s.heap s := by
    refine ⟨hK, rfl, fun w hw hn => ?_, fun C hC => va_AO.of (hts _ hC), hMi, hZ, ⟨scr, x1, x2, x3⟩, cl0, k1, k2, k5⟩
    have hon : w.onTables = true := by cases w <;> first | rfl | cases hn
    exact va_Nw.of hon (hts w hw)
  have hRl : Rl D vwc tys s.heap 600000 7302250 h s.heap := by
    refine ⟨rfl, Nat.le_refl _, rfl, ?_, fun _ _ => rfl, fun a ha => ?_⟩
    · show sl_sum s.heap.size s.heap + 7302250 = 7302250
      unfold sl_sum
      rw [List.drop_eq_nil_of_le (by simp)]
      rfl
    · by_cases e1 : a = b
      · have e2 : h.2.2.2 a = (200, vs) := by simp [h, e1]
        rw [e2]
        refine ⟨⟨by rw [e1]; exact hbl, fun _ => Or.inl (Nat.le_refl _)⟩, ?_⟩
        unfold ce_at
        rw [if_neg (show ¬ (200 : Nat) < 100 by decide), if_neg (show ¬ (200 : Nat) < 200 by decide)]
        exact ⟨scr, by rw [e1]; exact x1, fun _ => hscr⟩
      · by_cases e3 : a = t1
        · have e2 : h.2.2.2 a = (201, []) := by simp only [h]; rw [if_neg e1, if_pos e3]
          rw [e2]
          refine ⟨⟨by rw [e3]; exact (Array.getElem?_eq_some_iff.mp k1).1, fun _ => Or.inl (by decide)⟩, ?_⟩
          unfold ce_at
          rw [if_neg (show ¬ (201 : Nat) < 100 by decide), if_neg (show ¬ (201 : Nat) < 200 by decide)]
          exact ⟨cl0, by rw [e3]; exact k1, fun z => absurd z (by decide)⟩
        · exfalso
          apply ha
          have e2 : h.2.2.2 a = (0, []) := by simp only [h]; rw [if_neg e1, if_neg e3]
          rw [e2]
  have CC : Cx p room_1 s m #[Value.ref b] c D tys s.heap 600000 7302250 gc code 4 R_law h 13 := ⟨hx, hb, hml, hown, fun w hw => hts w (List.mem_filter.mp hw).1, hKX, hRl, by decide, by decide, Nat.le_refl 600000, Nat.le_refl 7302250⟩
  have hT := HP gc h ((List.range L).map xs) (by rw [List.length_map, List.length_range]; exact hL) hne (show (if b = b then (200, vs) else _) = (200, List.map Value.int ((List.range L).map xs)) by rw [if_pos rfl, List.map_map]; rfl) (show (if t1 = b then (200, vs) else if t1 = t1 then (201, []) else (0, [])) = (201, []) by rw [if_neg hne, if_pos rfl]) (fun a z1 z2 => by show (if a = b then (200, vs) else if a = t1 then (201, []) else (0, [])).1 = 0; rw [if_neg (show ¬ a = b from z2), if_neg (show ¬ a = t1 from z1)]) (Array.getElem?_eq_some_iff.mp k1).1 hbl rfl rfl
  rw [lg_entry_eq]
  refine Tf_sound (l := l) (e := e) (below := below) (meth := meth) (ini := false) (rt := ret) CC (fun z => by cases z) (WP_sound l hM 13) hM hB ?_ ?_ ?_ ?_ hT (lvl_entry (As := [.ref b]) (n := 4) (fun v hv => by rw [List.mem_singleton.mp hv]; rfl) (show 1 ≤ 4 by decide)) rfl s.heap [] 0 0 hRl (fun x hx => by cases hx)
  · intro pc ls h' x hd hrt hq H locs cells slots hR' hl
    have hx1 : x = 1 := Value.int.inj (Option.some.inj hq)
    subst hx1
    refine va_forget (fun q hq => hl q hq) ?_
    refine J_tg hRl hR' (fun z1 z2 => W.widen (k := 600000) (n := 7302250) (by show 600000 - _ ≤ 600000; omega) (by show 7302250 - _ ≤ 7302250; omega) ?_)
    exact lw_ret hx hb hr hlocks hd
  · intro pc ls h' x hd hrt hq H locs cells slots hR' hl
    cases hq
  · intro pc ls h' v hd hrt hv hq H locs cells slots hR' hl
    obtain ⟨rt', hrt1, hrt2⟩ := hrt
    cases hrt1
    rcases hrt2 with ⟨n, z⟩ | ⟨t, z⟩ <;> cases z
  · intro pc ls h' hd hrt hq H locs cells slots hR' hl
    cases hq
end
section
abbrev TT (gc : Nat → Nat) (d j : Nat) (q : PT) : KT := Tf gc (WP gc d) (mbk j) q
-- java/util/ArrayList.<init>()V
theorem M1 {gc : Nat → Nat} {d : Nat} {q : PT} {h : AH} {a0 : Nat}
    (H : (∃ Q1 : PT, WP gc d 2 [.ref a0] h Q1 ∧ ∀ (r2 : Option Value) (h3 : AH), Q1 r2 h3 → r2 = none ∧ (∃ vs4 : List Value, at_ h3 a0 10 vs4 ∧ 1 < vs4.length ∧ True ∧ ∀ h5 : AH, h5 = ah_set h3 a0 (10, vs4.set 1 (.ref (gc 1))) → q none h5))) : WP gc (d + 1) 1 [.ref a0] h q := ⟨q, fun _ _ z => z, Tf_fold H⟩
-- java/util/AbstractList.<init>()V
theorem M2 {gc : Nat → Nat} {d : Nat} {q : PT} {h : AH} {a0 : Nat}
    (H : (∃ Q1 : PT, WP gc d 3 [.ref a0] h Q1 ∧ ∀ (r2 : Option Value) (h3 : AH), Q1 r2 h3 → r2 = none ∧ (∃ vs4 : List Value, at_ h3 a0 10 vs4 ∧ 0 < vs4.length ∧ True ∧ ∀ h5 : AH, h5 = ah_set h3 a0 (10, vs4.set 0 (.int 0)) → q none h5))) : WP gc (d + 1) 2 [.ref a0] h q := ⟨q, fun _ _ z => z, Tf_fold H⟩
-- java/util/AbstractCollection.<init>()V
theorem M3 {gc : Nat → Nat} {d : Nat} {q : PT} {h : AH} {a0 : Nat}
    (H : q none h) : WP gc (d + 1) 3 [.ref a0] h q := ⟨q, fun _ _ z => z, Tf_fold H⟩
-- java/util/ArrayList.size()I
theorem M17 {gc : Nat → Nat} {d : Nat} {q : PT} {h : AH} {a0 : Nat}
    (H : (∃ (vs1 : List Value) (z2 : Int32), at_ h a0 10 vs1 ∧ vs1[2]? = some (.int z2) ∧ q (some (.int z2)) h)) : WP gc (d + 1) 17 [.ref a0] h q := ⟨q, fun _ _ z => z, Tf_fold H⟩
-- java/util/ArrayList.get(I)Ljava/lang/Object;
theorem M18 {gc : Nat → Nat} {d : Nat} {q : PT} {h : AH} {a0 : Nat} {x1 : Int32}
    (H : (∃ (vs1 : List Value) (z2 : Int32), at_ h a0 10 vs1 ∧ vs1[2]? = some (.int z2) ∧ (∃ Q3 : PT, WP gc d 19 [.int x1, .int z2] h Q3 ∧ ∀ (r4 : Option Value) (h5 : AH), Q3 r4 h5 → ∃ z6 : Int32, r4 = some (.int z6) ∧ ((∃ vs10 : List Value, at_ h5 a0 10 vs10) ∧ ∃ Q7 : PT, WP gc d 21 [.ref a0, .int x1] h5 Q7 ∧ ∀ (r8 : Option Value) (h9 : AH), Q7 r8 h9 → ∃ b11 : Nat, r8 = some (.ref b11) ∧ q (some (.ref b11)) h9)))) : WP gc (d + 1) 18 [.ref a0, .int x1] h q := ⟨q, fun _ _ z => z, Tf_fold H⟩
-- java/util/Objects.checkIndex(II)I
theorem M19 {gc : Nat → Nat} {d : Nat} {q : PT} {h : AH} {x0 : Int32} {x1 : Int32}
    (H : (∃ Q1 : PT, WP gc d 20 [.int x0, .int x1, .null] h Q1 ∧ ∀ (r2 : Option Value) (h3 : AH), Q1 r2 h3 → ∃ z4 : Int32, r2 = some (.int z4) ∧ q (some (.int z4)) h3)) : WP gc (d + 1) 19 [.int x0, .int x1] h q := ⟨q, fun _ _ z => z, Tf_fold H⟩
-- jdk/internal/util/Preconditions.checkIndex(IILjava/util/function/BiFunction;)I
theorem B20_16 {gc : Nat → Nat} {d : Nat} {q : PT} {h : AH} {x0 : Int32} {x1 : Int32}
    (H : q (some (.int x0)) h) : TT gc d 20 q 16 [.int x0, .int x1, .null] [] h := Tf_fold H
theorem B20_9 {gc : Nat → Nat} {d : Nat} {q : PT} {h : AH} {x0 : Int32} {x1 : Int32}
    (H : False) : TT gc d 20 q 9 [.int x0, .int x1, .null] [] h := Tf_fold H
theorem M20 {gc : Nat → Nat} {d : Nat} {q : PT} {h : AH} {x0 : Int32} {x1 : Int32}
    (H : (((x0 : Int32) < 0 → TT gc d 20 q 9 [.int x0, .int x1, .null] [] h) ∧ (¬ (x0 : Int32) < 0 → (((x0 : Int32) < x1 → TT gc d 20 q 16 [.int x0, .int x1, .null] [] h) ∧ (¬ (x0 : Int32) < x1 → TT gc d 20 q 9 [.int x0, .int x1, .null] [] h))))) : WP gc (d + 1) 20 [.int x0, .int x1, .null] h q := ⟨q, fun _ _ z => z, Tf_fold H⟩
-- java/util/ArrayList.elementData(I)Ljava/lang/Object;
theorem M21 {gc : Nat → Nat} {d : Nat} {q : PT} {h : AH} {a0 : Nat} {x1 : Int32}
    (H : (∃ (vs1 : List Value) (b2 : Nat), at_ h a0 10 vs1 ∧ vs1[1]? = some (.ref b2) ∧ (∃ (t3 : Nat) (vs4 : List Value) (b5 : Nat), at_ h b2 t3 vs4 ∧ isRA t3 = true ∧ ¬ (x1 : Int32) < 0 ∧ vs4[(x1 : Int32).toNatClampNeg]? = some (.ref b5) ∧ q (some (.ref b5)) h))) : WP gc (d + 1) 21 [.ref a0, .int x1] h q := ⟨q, fun _ _ z => z, Tf_fold H⟩
-- java/util/ArrayList.add(Ljava/lang/Object;)Z
theorem M23 {gc : Nat → Nat} {d : Nat} {q : PT} {h : AH} {a0 : Nat} {a1 : Nat}
    (H : (∃ (vs1 : List Value) (z2 : Int32), at_ h a0 10 vs1 ∧ vs1[0]? = some (.int z2) ∧ (∃ vs3 : List Value, at_ h a0 10 vs3 ∧ 0 < vs3.length ∧ True ∧ ∀ h4 : AH, h4 = ah_set h a0 (10, vs3.set 0 (.int (z2 + 1))) → (∃ (vs5 : List Value) (b6 : Nat), at_ h4 a0 10 vs5 ∧ vs5[1]? = some (.ref b6) ∧ (∃ (vs7 : List Value) (z8 : Int32), at_ h4 a0 10 vs7 ∧ vs7[2]? = some (.int z8) ∧ ((∃ vs12 : List Value, at_ h4 a0 10 vs12) ∧ ∃ Q9 : PT, WP gc d 24 [.ref a0, .ref a1, .ref b6, .int z8] h4 Q9 ∧ ∀ (r10 : Option Value) (h11 : AH), Q9 r10 h11 → r10 = none ∧ (((1 : Int32) = 0 ∨ (1 : Int32) = 1) ∧ q (some (.int 1)) h11))))))) : WP gc (d + 1) 23 [.ref a0, .ref a1] h q := ⟨q, fun _ _ z => z, Tf_fold H⟩
-- java/util/ArrayList.add(Ljava/lang/Object;[Ljava/lang/Object;I)V
theorem B24_11 {gc : Nat → Nat} {d : Nat} {q : PT} {h : AH} {a0 : Nat} {a1 : Nat} {a2 : Nat} {x3 : Int32}
    (H : (∃ (t1 t4 : Nat) (vs2 vs5 : List Value), at_ h a2 t1 vs2 ∧ at_ h a1 t4 vs5 ∧ asg t1 t4 = true ∧ ¬ (x3 : Int32) < 0 ∧ (x3 : Int32).toNatClampNeg < vs2.length ∧ ∀ h3 : AH, h3 = ah_set h a2 (t1, vs2.set (x3 : Int32).toNatClampNeg (.ref a1)) → (∃ vs6 : List Value, at_ h3 a0 10 vs6 ∧ 2 < vs6.length ∧ True ∧ ∀ h7 : AH, h7 = ah_set h3 a0 (10, vs6.set 2 (.int (x3 + 1))) → q none h7))) : TT gc d 24 q 11 [.ref a0, .ref a1, .ref a2, .int x3] [] h := Tf_fold H
theorem M24 {gc : Nat → Nat} {d : Nat} {q : PT} {h : AH} {a0 : Nat} {a1 : Nat} {a2 : Nat} {x3 : Int32}
    (H : (∃ (t1 : Nat) (vs2 : List Value), at_ h a2 t1 vs2 ∧ ((100 ≤ t1 ∧ t1 < 200) ∨ (t1 = 200 ∧ a2 = gc 2) ∨ (t1 = 201 ∧ a2 = gc 1 ∧ vs2 = [])) ∧ ((¬ (x3 : Int32) = ((Int32.ofNat vs2.length)) → TT gc d 24 q 11 [.ref a0, .ref a1, .ref a2, .int x3] [] h) ∧ ((x3 : Int32) = ((Int32.ofNat vs2.length)) → ((∃ vs6 : List Value, at_ h a0 10 vs6) ∧ ∃ Q3 : PT, WP gc d 25 [.ref a0] h Q3 ∧ ∀ (r4 : Option Value) (h5 : AH), Q3 r4 h5 → ∃ b7 : Nat, r4 = some (.ref b7) ∧ TT gc d 24 q 11 [.ref a0, .ref a1, .ref b7, .int x3] [] h5))))) : WP gc (d + 1) 24 [.ref a0, .ref a1, .ref a2, .int x3] h q := ⟨q, fun _ _ z => z, Tf_fold H⟩
-- java/util/ArrayList.grow()[Ljava/lang/Object;
theorem M25 {gc : Nat → Nat} {d : Nat} {q : PT} {h : AH} {a0 : Nat}
    (H : (∃ (vs1 : List Value) (z2 : Int32), at_ h a0 10 vs1 ∧ vs1[2]? = some (.int z2) ∧ ((∃ vs6 : List Value, at_ h a0 10 vs6) ∧ ∃ Q3 : PT, WP gc d 26 [.ref a0, .int (z2 + 1)] h Q3 ∧ ∀ (r4 : Option Value) (h5 : AH), Q3 r4 h5 → ∃ b7 : Nat, r4 = some (.ref b7) ∧ q (some (.ref b7)) h5))) : WP gc (d + 1) 25 [.ref a0] h q := ⟨q, fun _ _ z => z, Tf_fold H⟩
-- java/util/ArrayList.grow(I)[Ljava/lang/Object;
theorem B26_45 {gc : Nat → Nat} {d : Nat} {q : PT} {h : AH} {a0 : Nat} {x1 : Int32} {x2 : Int32}
    (H : (¬ ((if (10 : Int32) < x1 then x1 else 10) : Int32) < 0 ∧ 1 ≤ h.2.1 ∧ ((if (10 : Int32) < x1 then x1 else 10) : Int32).toNatClampNeg ≤ h.2.2.1 ∧ ((if (10 : Int32) < x1 then x1 else 10) : Int32).toNatClampNeg ≤ 100000 ∧ ∀ (b1 : Nat) (h2 : AH), b1 = h.1 → h2 = ah_new h (103, List.replicate ((if (10 : Int32) < x1 then x1 else 10) : Int32).toNatClampNeg .null) → (∃ vs3 : List Value, at_ h2 a0 10 vs3 ∧ 1 < vs3.length ∧ True ∧ ∀ h4 : AH, h4 = ah_set h2 a0 (10, vs3.set 1 (.ref b1)) → q (some (.ref b1)) h4))) : TT gc d 26 q 45 [.ref a0, .int x1, .int x2, .retAddr 0] [] h := Tf_fold H
theorem B26_20 {gc : Nat → Nat} {d : Nat} {q : PT} {h : AH} {a0 : Nat} {x1 : Int32} {x2 : Int32}
    (H : (∃ Q1 : PT, WP gc d 27 [.int x2, .int (x1 - x2), .int (x2 >>> (1 &&& 31))] h Q1 ∧ ∀ (r2 : Option Value) (h3 : AH), Q1 r2 h3 → ∃ z4 : Int32, r2 = some (.int z4) ∧ (∃ (vs5 : List Value) (b6 : Nat), at_ h3 a0 10 vs5 ∧ vs5[1]? = some (.ref b6) ∧ (∃ Q7 : PT, WP gc d 29 [.ref b6, .int z4] h3 Q7 ∧ ∀ (r8 : Option Value) (h9 : AH), Q7 r8 h9 → ∃ b10 : Nat, r8 = some (.ref b10) ∧ (∃ vs11 : List Value, at_ h9 a0 10 vs11 ∧ 1 < vs11.length ∧ True ∧ ∀ h12 : AH, h12 = ah_set h9 a0 (10, vs11.set 1 (.ref b10)) → q (some (.ref b10)) h12))))) : TT gc d 26 q 20 [.ref a0, .int x1, .int x2, .retAddr 0] [] h := Tf_fold H
theorem M26 {gc : Nat → Nat} {d : Nat} {q : PT} {h : AH} {a0 : Nat} {x1 : Int32}
    (H : (∃ (vs1 : List Value) (b2 : Nat), at_ h a0 10 vs1 ∧ vs1[1]? = some (.ref b2) ∧ (∃ (t3 : Nat) (vs4 : List Value), at_ h b2 t3 vs4 ∧ ((100 ≤ t3 ∧ t3 < 200) ∨ (t3 = 200 ∧ b2 = gc 2) ∨ (t3 = 201 ∧ b2 = gc 1 ∧ vs4 = [])) ∧ ((0 < ((Int32.ofNat vs4.length) : Int32) → TT gc d 26 q 20 [.ref a0, .int x1, .int (Int32.ofNat vs4.length), .retAddr 0] [] h) ∧ (¬ 0 < ((Int32.ofNat vs4.length) : Int32) → (∃ (vs5 : List Value) (b6 : Nat), at_ h a0 10 vs5 ∧ vs5[1]? = some (.ref b6) ∧ ((b6 = ((gc 1)) → TT gc d 26 q 45 [.ref a0, .int x1, .int (Int32.ofNat vs4.length), .retAddr 0] [] h) ∧ (¬ b6 = ((gc 1)) → TT gc d 26 q 20 [.ref a0, .int x1, .int (Int32.ofNat vs4.length), .retAddr 0] [] h)))))))) : WP gc (d + 1) 26 [.ref a0, .int x1] h q := ⟨q, fun _ _ z => z, Tf_fold H⟩
-- jdk/internal/util/ArraysSupport.newLength(III)I
theorem B27_21 {gc : Nat → Nat} {d : Nat} {q : PT} {h : AH} {x0 : Int32} {x1 : Int32} {x2 : Int32} {x3 : Int32}
    (H : (∃ Q1 : PT, WP gc d 28 [.int x0, .int x1] h Q1 ∧ ∀ (r2 : Option Value) (h3 : AH), Q1 r2 h3 → ∃ z4 : Int32, r2 = some (.int z4) ∧ q (some (.int z4)) h3)) : TT gc d 27 q 21 [.int x0, .int x1, .int x2, .int x3] [] h := Tf_fold H
theorem M27 {gc : Nat → Nat} {d : Nat} {q : PT} {h : AH} {x0 : Int32} {x1 : Int32} {x2 : Int32}
    (H : ((((x0 + ((if (x1 : Int32) < x2 then x2 else x1)))) ≤ (0 : Int32) → TT gc d 27 q 21 [.int x0, .int x1, .int x2, .int (x0 + ((if (x1 : Int32) < x2 then x2 else x1)))] [] h) ∧ (¬ ((x0 + ((if (x1 : Int32) < x2 then x2 else x1)))) ≤ (0 : Int32) → ((((Int32.ofNat 2147483639)) < ((x0 + ((if (x1 : Int32) < x2 then x2 else x1))) : Int32) → TT gc d 27 q 21 [.int x0, .int x1, .int x2, .int (x0 + ((if (x1 : Int32) < x2 then x2 else x1)))] [] h) ∧ (¬ ((Int32.ofNat 2147483639)) < ((x0 + ((if (x1 : Int32) < x2 then x2 else x1))) : Int32) → q (some (.int (x0 + ((if (x1 : Int32) < x2 then x2 else x1))))) h))))) : WP gc (d + 1) 27 [.int x0, .int x1, .int x2] h q := ⟨q, fun _ _ z => z, Tf_fold H⟩
-- jdk/internal/util/ArraysSupport.hugeLength(II)I
theorem B28_58 {gc : Nat → Nat} {d : Nat} {q : PT} {h : AH} {x0 : Int32} {x1 : Int32} {x2 : Int32}
    (H : q (some (.int x2)) h) : TT gc d 28 q 58 [.int x0, .int x1, .int x2] [] h := Tf_fold H
theorem B28_49 {gc : Nat → Nat} {d : Nat} {q : PT} {h : AH} {x0 : Int32} {x1 : Int32} {x2 : Int32}
    (H : ((((Int32.ofNat 2147483639)) < (x2 : Int32) → TT gc d 28 q 58 [.int x0, .int x1, .int x2] [] h) ∧ (¬ ((Int32.ofNat 2147483639)) < (x2 : Int32) → q (some (.int (Int32.ofNat 2147483639))) h))) : TT gc d 28 q 49 [.int x0, .int x1, .int x2] [] h := Tf_fold H
theorem M28 {gc : Nat → Nat} {d : Nat} {q : PT} {h : AH} {x0 : Int32} {x1 : Int32}
    (H : ((0 ≤ ((x0 + x1) : Int32) → TT gc d 28 q 49 [.int x0, .int x1, .int (x0 + x1)] [] h) ∧ (¬ 0 ≤ ((x0 + x1) : Int32) → False))) : WP gc (d + 1) 28 [.int x0, .int x1] h q := ⟨q, fun _ _ z => z, Tf_fold H⟩
-- java/util/Arrays.copyOf([Ljava/lang/Object;I)[Ljava/lang/Object;
theorem M29 {gc : Nat → Nat} {d : Nat} {q : PT} {h : AH} {a0 : Nat} {x1 : Int32}
    (H : ((∃ vs1 : List Value, at_ h a0 103 vs1) ∧ (∃ Q2 : PT, WP gc d 30 [.ref a0, .int x1, .ref (gc 0)] h Q2 ∧ ∀ (r3 : Option Value) (h4 : AH), Q2 r3 h4 → ∃ b5 : Nat, r3 = some (.ref b5) ∧ q (some (.ref b5)) h4))) : WP gc (d + 1) 29 [.ref a0, .int x1] h q := ⟨q, fun _ _ z => z, Tf_fold H⟩
-- java/util/Arrays.copyOf([Ljava/lang/Object;ILjava/lang/Class;)[Ljava/lang/Object;
theorem B30_24 {gc : Nat → Nat} {d : Nat} {q : PT} {h : AH} {a0 : Nat} {x1 : Int32} {a2 : Nat} {sa0 : Nat}
    (H : (∃ (t1 : Nat) (vs2 : List Value), at_ h a0 t1 vs2 ∧ ((100 ≤ t1 ∧ t1 < 200) ∨ (t1 = 200 ∧ a0 = gc 2) ∨ (t1 = 201 ∧ a0 = gc 1 ∧ vs2 = [])) ∧ (∃ vs3 vs4 : List Value, at_ h a0 103 vs3 ∧ at_ h sa0 103 vs4 ∧ ¬ (0 : Int32) < 0 ∧ ¬ (0 : Int32) < 0 ∧ ¬ ((if (x1 : Int32) < ((Int32.ofNat vs2.length)) then x1 else ((Int32.ofNat vs2.length))) : Int32) < 0 ∧ (0 : Int32).toNatClampNeg + ((if (x1 : Int32) < ((Int32.ofNat vs2.length)) then x1 else ((Int32.ofNat vs2.length))) : Int32).toNatClampNeg ≤ vs3.length ∧ (0 : Int32).toNatClampNeg + ((if (x1 : Int32) < ((Int32.ofNat vs2.length)) then x1 else ((Int32.ofNat vs2.length))) : Int32).toNatClampNeg ≤ vs4.length ∧ 1 ≤ vs4.length ∧ (∀ v ∈ vs3, v = .null ∨ ∃ (y ty : Nat) (vs : List Value), v = .ref y ∧ at_ h y ty vs ∧ asg 103 ty = true) ∧ ∀ h5 : AH, h5 = ah_set h sa0 (103, cpyL vs3 vs4 (0 : Int32).toNatClampNeg (0 : Int32).toNatClampNeg ((if (x1 : Int32) < ((Int32.ofNat vs2.length)) then x1 else ((Int32.ofNat vs2.length))) : Int32).toNatClampNeg) → q (some (.ref sa0)) h5))) : TT gc d 30 q 24 [.ref a0, .int x1, .ref a2, .retAddr 0] [.ref sa0] h := Tf_fold H
theorem B30_13 {gc : Nat → Nat} {d : Nat} {q : PT} {h : AH} {a0 : Nat} {x1 : Int32} {a2 : Nat}
    (H : False) : TT gc d 30 q 13 [.ref a0, .int x1, .ref a2, .retAddr 0] [] h := Tf_fold H
theorem M30 {gc : Nat → Nat} {d : Nat} {q : PT} {h : AH} {a0 : Nat} {x1 : Int32} {a2 : Nat}
    (H : ((¬ a2 = ((gc 0)) → TT gc d 30 q 13 [.ref a0, .int x1, .ref a2, .retAddr 0] [] h) ∧ (a2 = ((gc 0)) → (¬ (x1 : Int32) < 0 ∧ 1 ≤ h.2.1 ∧ (x1 : Int32).toNatClampNeg ≤ h.2.2.1 ∧ (x1 : Int32).toNatClampNeg ≤ 100000 ∧ ∀ (b1 : Nat) (h2 : AH), b1 = h.1 → h2 = ah_new h (103, List.replicate (x1 : Int32).toNatClampNeg .null) → TT gc d 30 q 24 [.ref a0, .int x1, .ref a2, .retAddr 0] [.ref b1] h2)))) : WP gc (d + 1) 30 [.ref a0, .int x1, .ref a2] h q := ⟨q, fun _ _ z => z, Tf_fold H⟩
-- java/util/ArrayList.remove(I)Ljava/lang/Object;
theorem M32 {gc : Nat → Nat} {d : Nat} {q : PT} {h : AH} {a0 : Nat} {x1 : Int32}
    (H : (∃ (vs1 : List Value) (z2 : Int32), at_ h a0 10 vs1 ∧ vs1[2]? = some (.int z2) ∧ (∃ Q3 : PT, WP gc d 19 [.int x1, .int z2] h Q3 ∧ ∀ (r4 : Option Value) (h5 : AH), Q3 r4 h5 → ∃ z6 : Int32, r4 = some (.int z6) ∧ (∃ (vs7 : List Value) (b8 : Nat), at_ h5 a0 10 vs7 ∧ vs7[1]? = some (.ref b8) ∧ (∃ (t9 : Nat) (vs10 : List Value) (b11 : Nat), at_ h5 b8 t9 vs10 ∧ isRA t9 = true ∧ ¬ (x1 : Int32) < 0 ∧ vs10[(x1 : Int32).toNatClampNeg]? = some (.ref b11) ∧ ((∃ vs15 : List Value, at_ h5 a0 10 vs15) ∧ ∃ Q12 : PT, WP gc d 33 [.ref a0, .ref b8, .int x1] h5 Q12 ∧ ∀ (r13 : Option Value) (h14 : AH), Q12 r13 h14 → r13 = none ∧ q (some (.ref b11)) h14)))))) : WP gc (d + 1) 32 [.ref a0, .int x1] h q := ⟨q, fun _ _ z => z, Tf_fold H⟩
-- java/util/ArrayList.fastRemove([Ljava/lang/Object;I)V
theorem B33_34 {gc : Nat → Nat} {d : Nat} {q : PT} {h : AH} {a0 : Nat} {a1 : Nat} {x2 : Int32} {x3 : Int32}
    (H : (∃ vs1 : List Value, at_ h a0 10 vs1 ∧ 2 < vs1.length ∧ True ∧ ∀ h2 : AH, h2 = ah_set h a0 (10, vs1.set 2 (.int x3)) → (∃ (t3 : Nat) (vs4 : List Value), at_ h2 a1 t3 vs4 ∧ isRA t3 = true ∧ ¬ (x3 : Int32) < 0 ∧ (x3 : Int32).toNatClampNeg < vs4.length ∧ ∀ h5 : AH, h5 = ah_set h2 a1 (t3, vs4.set (x3 : Int32).toNatClampNeg .null) → q none h5))) : TT gc d 33 q 34 [.ref a0, .ref a1, .int x2, .int x3] [] h := Tf_fold H
theorem M33 {gc : Nat → Nat} {d : Nat} {q : PT} {h : AH} {a0 : Nat} {a1 : Nat} {x2 : Int32}
    (H : (∃ (vs1 : List Value) (z2 : Int32), at_ h a0 10 vs1 ∧ vs1[0]? = some (.int z2) ∧ (∃ vs3 : List Value, at_ h a0 10 vs3 ∧ 0 < vs3.length ∧ True ∧ ∀ h4 : AH, h4 = ah_set h a0 (10, vs3.set 0 (.int (z2 + 1))) → (∃ (vs5 : List Value) (z6 : Int32), at_ h4 a0 10 vs5 ∧ vs5[2]? = some (.int z6) ∧ ((((z6 - 1) : Int32) ≤ x2 → TT gc d 33 q 34 [.ref a0, .ref a1, .int x2, .int (z6 - 1)] [] h4) ∧ (¬ ((z6 - 1) : Int32) ≤ x2 → (∃ vs7 vs8 : List Value, at_ h4 a1 103 vs7 ∧ at_ h4 a1 103 vs8 ∧ ¬ ((x2 + 1) : Int32) < 0 ∧ ¬ (x2 : Int32) < 0 ∧ ¬ ((((z6 - 1)) - x2) : Int32) < 0 ∧ ((x2 + 1) : Int32).toNatClampNeg + ((((z6 - 1)) - x2) : Int32).toNatClampNeg ≤ vs7.length ∧ (x2 : Int32).toNatClampNeg + ((((z6 - 1)) - x2) : Int32).toNatClampNeg ≤ vs8.length ∧ 1 ≤ vs8.length ∧ (∀ v ∈ vs7, v = .null ∨ ∃ (y ty : Nat) (vs : List Value), v = .ref y ∧ at_ h4 y ty vs ∧ asg 103 ty = true) ∧ ∀ h9 : AH, h9 = ah_set h4 a1 (103, cpyL vs7 vs8 ((x2 + 1) : Int32).toNatClampNeg (x2 : Int32).toNatClampNeg ((((z6 - 1)) - x2) : Int32).toNatClampNeg) → TT gc d 33 q 34 [.ref a0, .ref a1, .int x2, .int (z6 - 1)] [] h9))))))) : WP gc (d + 1) 33 [.ref a0, .ref a1, .int x2] h q := ⟨q, fun _ _ z => z, Tf_fold H⟩
-- java/util/ArrayList.clear()V
theorem B38_42 {gc : Nat → Nat} {d : Nat} {q : PT} {h : AH} {a0 : Nat} {a1 : Nat} {x2 : Int32} {x3 : Int32}
    (H : q none h) : TT gc d 38 q 42 [.ref a0, .ref a1, .int x2, .int x3] [] h := Tf_fold H
theorem B38_27 {gc : Nat → Nat} {d : Nat} {q : PT} {h : AH} {a0 : Nat} {a1 : Nat} {x2 : Int32} {x3 : Int32}
    (H : ((x2 ≤ (x3 : Int32) → TT gc d 38 q 42 [.ref a0, .ref a1, .int x2, .int x3] [] h) ∧ (¬ x2 ≤ (x3 : Int32) → (∃ (t1 : Nat) (vs2 : List Value), at_ h a1 t1 vs2 ∧ isRA t1 = true ∧ ¬ (x3 : Int32) < 0 ∧ (x3 : Int32).toNatClampNeg < vs2.length ∧ ∀ h3 : AH, h3 = ah_set h a1 (t1, vs2.set (x3 : Int32).toNatClampNeg .null) → TT gc d 38 q 27 [.ref a0, .ref a1, .int x2, .int (x3 + 1)] [] h3)))) : TT gc d 38 q 27 [.ref a0, .ref a1, .int x2, .int x3] [] h := Tf_fold H
theorem M38 {gc : Nat → Nat} {d : Nat} {q : PT} {h : AH} {a0 : Nat}
    (H : (∃ (vs1 : List Value) (z2 : Int32), at_ h a0 10 vs1 ∧ vs1[0]? = some (.int z2) ∧ (∃ vs3 : List Value, at_ h a0 10 vs3 ∧ 0 < vs3.length ∧ True ∧ ∀ h4 : AH, h4 = ah_set h a0 (10, vs3.set 0 (.int (z2 + 1))) → (∃ (vs5 : List Value) (b6 : Nat), at_ h4 a0 10 vs5 ∧ vs5[1]? = some (.ref b6) ∧ (∃ (vs7 : List Value) (z8 : Int32), at_ h4 a0 10 vs7 ∧ vs7[2]? = some (.int z8) ∧ (∃ vs9 : List Value, at_ h4 a0 10 vs9 ∧ 2 < vs9.length ∧ True ∧ ∀ h10 : AH, h10 = ah_set h4 a0 (10, vs9.set 2 (.int 0)) → TT gc d 38 q 27 [.ref a0, .ref b6, .int z8, .int 0] [] h10)))))) : WP gc (d + 1) 38 [.ref a0] h q := ⟨q, fun _ _ z => z, Tf_fold H⟩
-- java/util/ArrayList.add(ILjava/lang/Object;)V
theorem B52_38 {gc : Nat → Nat} {d : Nat} {q : PT} {h : AH} {a0 : Nat} {x1 : Int32} {a2 : Nat} {x3 : Int32} {a4 : Nat}
    (H : (∃ vs1 vs2 : List Value, at_ h a4 103 vs1 ∧ at_ h a4 103 vs2 ∧ ¬ (x1 : Int32) < 0 ∧ ¬ ((x1 + 1) : Int32) < 0 ∧ ¬ ((x3 - x1) : Int32) < 0 ∧ (x1 : Int32).toNatClampNeg + ((x3 - x1) : Int32).toNatClampNeg ≤ vs1.length ∧ ((x1 + 1) : Int32).toNatClampNeg + ((x3 - x1) : Int32).toNatClampNeg ≤ vs2.length ∧ 1 ≤ vs2.length ∧ (∀ v ∈ vs1, v = .null ∨ ∃ (y ty : Nat) (vs : List Value), v = .ref y ∧ at_ h y ty vs ∧ asg 103 ty = true) ∧ ∀ h3 : AH, h3 = ah_set h a4 (103, cpyL vs1 vs2 (x1 : Int32).toNatClampNeg ((x1 + 1) : Int32).toNatClampNeg ((x3 - x1) : Int32).toNatClampNeg) → (∃ (t4 t7 : Nat) (vs5 vs8 : List Value), at_ h3 a4 t4 vs5 ∧ at_ h3 a2 t7 vs8 ∧ asg t4 t7 = true ∧ ¬ (x1 : Int32) < 0 ∧ (x1 : Int32).toNatClampNeg < vs5.length ∧ ∀ h6 : AH, h6 = ah_set h3 a4 (t4, vs5.set (x1 : Int32).toNatClampNeg (.ref a2)) → (∃ vs9 : List Value, at_ h6 a0 10 vs9 ∧ 2 < vs9.length ∧ True ∧ ∀ h10 : AH, h10 = ah_set h6 a0 (10, vs9.set 2 (.int (x3 + 1))) → q none h10)))) : TT gc d 52 q 38 [.ref a0, .int x1, .ref a2, .int x3, .ref a4] [] h := Tf_fold H
theorem M52 {gc : Nat → Nat} {d : Nat} {q : PT} {h : AH} {a0 : Nat} {x1 : Int32} {a2 : Nat}
    (H : ((∃ vs4 : List Value, at_ h a0 10 vs4) ∧ ∃ Q1 : PT, WP gc d 53 [.ref a0, .int x1] h Q1 ∧ ∀ (r2 : Option Value) (h3 : AH), Q1 r2 h3 → r2 = none ∧ (∃ (vs5 : List Value) (z6 : Int32), at_ h3 a0 10 vs5 ∧ vs5[0]? = some (.int z6) ∧ (∃ vs7 : List Value, at_ h3 a0 10 vs7 ∧ 0 < vs7.length ∧ True ∧ ∀ h8 : AH, h8 = ah_set h3 a0 (10, vs7.set 0 (.int (z6 + 1))) → (∃ (vs9 : List Value) (z10 : Int32), at_ h8 a0 10 vs9 ∧ vs9[2]? = some (.int z10) ∧ (∃ (vs11 : List Value) (b12 : Nat), at_ h8 a0 10 vs11 ∧ vs11[1]? = some (.ref b12) ∧ (∃ (t13 : Nat) (vs14 : List Value), at_ h8 b12 t13 vs14 ∧ ((100 ≤ t13 ∧ t13 < 200) ∨ (t13 = 200 ∧ b12 = gc 2) ∨ (t13 = 201 ∧ b12 = gc 1 ∧ vs14 = [])) ∧ ((¬ (z10 : Int32) = ((Int32.ofNat vs14.length)) → TT gc d 52 q 38 [.ref a0, .int x1, .ref a2, .int z10, .ref b12] [] h8) ∧ ((z10 : Int32) = ((Int32.ofNat vs14.length)) → ((∃ vs18 : List Value, at_ h8 a0 10 vs18) ∧ ∃ Q15 : PT, WP gc d 25 [.ref a0] h8 Q15 ∧ ∀ (r16 : Option Value) (h17 : AH), Q15 r16 h17 → ∃ b19 : Nat, r16 = some (.ref b19) ∧ TT gc d 52 q 38 [.ref a0, .int x1, .ref a2, .int z10, .ref b19] [] h17)))))))))) : WP gc (d + 1) 52 [.ref a0, .int x1, .ref a2] h q := ⟨q, fun _ _ z => z, Tf_fold H⟩
-- java/util/ArrayList.rangeCheckForAdd(I)V
theorem B53_25 {gc : Nat → Nat} {d : Nat} {q : PT} {h : AH} {a0 : Nat} {x1 : Int32}
    (H : q none h) : TT gc d 53 q 25 [.ref a0, .int x1] [] h := Tf_fold H
theorem B53_12 {gc : Nat → Nat} {d : Nat} {q : PT} {h : AH} {a0 : Nat} {x1 : Int32}
    (H : False) : TT gc d 53 q 12 [.ref a0, .int x1] [] h := Tf_fold H
theorem M53 {gc : Nat → Nat} {d : Nat} {q : PT} {h : AH} {a0 : Nat} {x1 : Int32}
    (H : (∃ (vs1 : List Value) (z2 : Int32), at_ h a0 10 vs1 ∧ vs1[2]? = some (.int z2) ∧ ((z2 < (x1 : Int32) → TT gc d 53 q 12 [.ref a0, .int x1] [] h) ∧ (¬ z2 < (x1 : Int32) → ((0 ≤ (x1 : Int32) → TT gc d 53 q 25 [.ref a0, .int x1] [] h) ∧ (¬ 0 ≤ (x1 : Int32) → TT gc d 53 q 12 [.ref a0, .int x1] [] h)))))) : WP gc (d + 1) 53 [.ref a0, .int x1] h q := ⟨q, fun _ _ z => z, Tf_fold H⟩
-- java/util/ArrayList.isEmpty()Z
theorem B63_12 {gc : Nat → Nat} {d : Nat} {q : PT} {h : AH} {a0 : Nat} {sx0 : Int32}
    (H : (((sx0 : Int32) = 0 ∨ (sx0 : Int32) = 1) ∧ q (some (.int sx0)) h)) : TT gc d 63 q 12 [.ref a0] [.int sx0] h := Tf_fold H
theorem B63_11 {gc : Nat → Nat} {d : Nat} {q : PT} {h : AH} {a0 : Nat}
    (H : TT gc d 63 q 12 [.ref a0] [.int 0] h) : TT gc d 63 q 11 [.ref a0] [] h := Tf_fold H
theorem M63 {gc : Nat → Nat} {d : Nat} {q : PT} {h : AH} {a0 : Nat}
    (H : (∃ (vs1 : List Value) (z2 : Int32), at_ h a0 10 vs1 ∧ vs1[2]? = some (.int z2) ∧ ((¬ (z2 : Int32) = 0 → TT gc d 63 q 11 [.ref a0] [] h) ∧ ((z2 : Int32) = 0 → TT gc d 63 q 12 [.ref a0] [.int 1] h)))) : WP gc (d + 1) 63 [.ref a0] h q := ⟨q, fun _ _ z => z, Tf_fold H⟩
end
section
-- QueueBroker.<init>()V
theorem B0_145 {gc : Nat → Nat} {d : Nat} {q : PT} {h : AH} {a0 : Nat} {x1 : Int32}
    (H : q none h) : TT gc d 0 q 145 [.ref a0, .int x1] [] h := Tf_fold H
theorem B0_121 {gc : Nat → Nat} {d : Nat} {q : PT} {h : AH} {a0 : Nat} {x1 : Int32}
    (H : ((4 ≤ (x1 : Int32) → TT gc d 0 q 145 [.ref a0, .int x1] [] h) ∧ (¬ 4 ≤ (x1 : Int32) → (∃ (vs1 : List Value) (b2 : Nat), at_ h a0 9 vs1 ∧ vs1[2]? = some (.ref b2) ∧ (1 ≤ h.2.1 ∧ (dfl 2).length ≤ h.2.2.1 ∧ ∀ (b3 : Nat) (h4 : AH), b3 = h.1 → h4 = ah_new h (2, dfl 2) → (∃ Q5 : PT, WP gc d 6 [.ref b3] h4 Q5 ∧ ∀ (r6 : Option Value) (h7 : AH), Q5 r6 h7 → r6 = none ∧ (∃ (t8 t11 : Nat) (vs9 vs12 : List Value), at_ h7 b2 t8 vs9 ∧ at_ h7 b3 t11 vs12 ∧ asg t8 t11 = true ∧ ¬ (x1 : Int32) < 0 ∧ (x1 : Int32).toNatClampNeg < vs9.length ∧ ∀ h10 : AH, h10 = ah_set h7 b2 (t8, vs9.set (x1 : Int32).toNatClampNeg (.ref b3)) → TT gc d 0 q 121 [.ref a0, .int (x1 + 1)] [] h10))))))) : TT gc d 0 q 121 [.ref a0, .int x1] [] h := Tf_fold H
theorem B0_119 {gc : Nat → Nat} {d : Nat} {q : PT} {h : AH} {a0 : Nat} {x1 : Int32}
    (H : TT gc d 0 q 121 [.ref a0, .int 0] [] h) : TT gc d 0 q 119 [.ref a0, .int x1] [] h := Tf_fold H
theorem B0_94 {gc : Nat → Nat} {d : Nat} {q : PT} {h : AH} {a0 : Nat} {x1 : Int32}
    (H : ((6 ≤ (x1 : Int32) → TT gc d 0 q 119 [.ref a0, .int x1] [] h) ∧ (¬ 6 ≤ (x1 : Int32) → (∃ (vs1 : List Value) (b2 : Nat), at_ h a0 9 vs1 ∧ vs1[1]? = some (.ref b2) ∧ (1 ≤ h.2.1 ∧ (dfl 8).length ≤ h.2.2.1 ∧ ∀ (b3 : Nat) (h4 : AH), b3 = h.1 → h4 = ah_new h (8, dfl 8) → (∃ Q5 : PT, WP gc d 5 [.ref b3] h4 Q5 ∧ ∀ (r6 : Option Value) (h7 : AH), Q5 r6 h7 → r6 = none ∧ (∃ (t8 t11 : Nat) (vs9 vs12 : List Value), at_ h7 b2 t8 vs9 ∧ at_ h7 b3 t11 vs12 ∧ asg t8 t11 = true ∧ ¬ (x1 : Int32) < 0 ∧ (x1 : Int32).toNatClampNeg < vs9.length ∧ ∀ h10 : AH, h10 = ah_set h7 b2 (t8, vs9.set (x1 : Int32).toNatClampNeg (.ref b3)) → TT gc d 0 q 94 [.ref a0, .int (x1 + 1)] [] h10))))))) : TT gc d 0 q 94 [.ref a0, .int x1] [] h := Tf_fold H
theorem B0_92 {gc : Nat → Nat} {d : Nat} {q : PT} {h : AH} {a0 : Nat} {x1 : Int32}
    (H : TT gc d 0 q 94 [.ref a0, .int 0] [] h) : TT gc d 0 q 92 [.ref a0, .int x1] [] h := Tf_fold H
theorem B0_68 {gc : Nat → Nat} {d : Nat} {q : PT} {h : AH} {a0 : Nat} {x1 : Int32}
    (H : ((5 ≤ (x1 : Int32) → TT gc d 0 q 92 [.ref a0, .int x1] [] h) ∧ (¬ 5 ≤ (x1 : Int32) → (∃ (vs1 : List Value) (b2 : Nat), at_ h a0 9 vs1 ∧ vs1[0]? = some (.ref b2) ∧ (1 ≤ h.2.1 ∧ (dfl 6).length ≤ h.2.2.1 ∧ ∀ (b3 : Nat) (h4 : AH), b3 = h.1 → h4 = ah_new h (6, dfl 6) → (∃ Q5 : PT, WP gc d 4 [.ref b3] h4 Q5 ∧ ∀ (r6 : Option Value) (h7 : AH), Q5 r6 h7 → r6 = none ∧ (∃ (t8 t11 : Nat) (vs9 vs12 : List Value), at_ h7 b2 t8 vs9 ∧ at_ h7 b3 t11 vs12 ∧ asg t8 t11 = true ∧ ¬ (x1 : Int32) < 0 ∧ (x1 : Int32).toNatClampNeg < vs9.length ∧ ∀ h10 : AH, h10 = ah_set h7 b2 (t8, vs9.set (x1 : Int32).toNatClampNeg (.ref b3)) → TT gc d 0 q 68 [.ref a0, .int (x1 + 1)] [] h10))))))) : TT gc d 0 q 68 [.ref a0, .int x1] [] h := Tf_fold H
theorem M0 {gc : Nat → Nat} {d : Nat} {q : PT} {h : AH} {a0 : Nat}
    (H : (¬ (5 : Int32) < 0 ∧ 1 ≤ h.2.1 ∧ (5 : Int32).toNatClampNeg ≤ h.2.2.1 ∧ (5 : Int32).toNatClampNeg ≤ 100000 ∧ ∀ (b1 : Nat) (h2 : AH), b1 = h.1 → h2 = ah_new h (100, List.replicate (5 : Int32).toNatClampNeg .null) → (∃ vs3 : List Value, at_ h2 a0 9 vs3 ∧ 0 < vs3.length ∧ True ∧ ∀ h4 : AH, h4 = ah_set h2 a0 (9, vs3.set 0 (.ref b1)) → (¬ (6 : Int32) < 0 ∧ 1 ≤ h4.2.1 ∧ (6 : Int32).toNatClampNeg ≤ h4.2.2.1 ∧ (6 : Int32).toNatClampNeg ≤ 100000 ∧ ∀ (b5 : Nat) (h6 : AH), b5 = h4.1 → h6 = ah_new h4 (101, List.replicate (6 : Int32).toNatClampNeg .null) → (∃ vs7 : List Value, at_ h6 a0 9 vs7 ∧ 1 < vs7.length ∧ True ∧ ∀ h8 : AH, h8 = ah_set h6 a0 (9, vs7.set 1 (.ref b5)) → (¬ (4 : Int32) < 0 ∧ 1 ≤ h8.2.1 ∧ (4 : Int32).toNatClampNeg ≤ h8.2.2.1 ∧ (4 : Int32).toNatClampNeg ≤ 100000 ∧ ∀ (b9 : Nat) (h10 : AH), b9 = h8.1 → h10 = ah_new h8 (102, List.replicate (4 : Int32).toNatClampNeg .null) → (∃ vs11 : List Value, at_ h10 a0 9 vs11 ∧ 2 < vs11.length ∧ True ∧ ∀ h12 : AH, h12 = ah_set h10 a0 (9, vs11.set 2 (.ref b9)) → (1 ≤ h12.2.1 ∧ (dfl 10).length ≤ h12.2.2.1 ∧ ∀ (b13 : Nat) (h14 : AH), b13 = h12.1 → h14 = ah_new h12 (10, dfl 10) → (∃ Q15 : PT, WP gc d 1 [.ref b13] h14 Q15 ∧ ∀ (r16 : Option Value) (h17 : AH), Q15 r16 h17 → r16 = none ∧ (∃ vs18 : List Value, at_ h17 a0 9 vs18 ∧ 3 < vs18.length ∧ True ∧ ∀ h19 : AH, h19 = ah_set h17 a0 (9, vs18.set 3 (.ref b13)) → (1 ≤ h19.2.1 ∧ (dfl 10).length ≤ h19.2.2.1 ∧ ∀ (b20 : Nat) (h21 : AH), b20 = h19.1 → h21 = ah_new h19 (10, dfl 10) → (∃ Q22 : PT, WP gc d 1 [.ref b20] h21 Q22 ∧ ∀ (r23 : Option Value) (h24 : AH), Q22 r23 h24 → r23 = none ∧ (∃ vs25 : List Value, at_ h24 a0 9 vs25 ∧ 4 < vs25.length ∧ True ∧ ∀ h26 : AH, h26 = ah_set h24 a0 (9, vs25.set 4 (.ref b20)) → (∃ vs27 : List Value, at_ h26 a0 9 vs27 ∧ 5 < vs27.length ∧ True ∧ ∀ h28 : AH, h28 = ah_set h26 a0 (9, vs27.set 5 (.int 0)) → (∃ vs29 : List Value, at_ h28 a0 9 vs29 ∧ 6 < vs29.length ∧ True ∧ ∀ h30 : AH, h30 = ah_set h28 a0 (9, vs29.set 6 (.int 0)) → (∃ vs31 : List Value, at_ h30 a0 9 vs31 ∧ 7 < vs31.length ∧ True ∧ ∀ h32 : AH, h32 = ah_set h30 a0 (9, vs31.set 7 (.int 0)) → TT gc d 0 q 68 [.ref a0, .int 0] [] h32)))))))))))))))) : WP gc (d + 1) 0 [.ref a0] h q := ⟨q, fun _ _ z => z, Tf_fold H⟩
-- QueueBroker$Exchange.<init>()V
theorem M4 {gc : Nat → Nat} {d : Nat} {q : PT} {h : AH} {a0 : Nat}
    (H : (∃ vs1 : List Value, at_ h a0 6 vs1 ∧ 0 < vs1.length ∧ ((0 : Int32) = 0 ∨ (0 : Int32) = 1) ∧ ∀ h2 : AH, h2 = ah_set h a0 (6, vs1.set 0 (.int 0)) → (∃ vs3 : List Value, at_ h2 a0 6 vs3 ∧ 1 < vs3.length ∧ True ∧ ∀ h4 : AH, h4 = ah_set h2 a0 (6, vs3.set 1 (.int 0)) → (∃ vs5 : List Value, at_ h4 a0 6 vs5 ∧ 2 < vs5.length ∧ ((0 : Int32) = 0 ∨ (0 : Int32) = 1) ∧ ∀ h6 : AH, h6 = ah_set h4 a0 (6, vs5.set 2 (.int 0)) → q none h6)))) : WP gc (d + 1) 4 [.ref a0] h q := ⟨q, fun _ _ z => z, Tf_fold H⟩
-- QueueBroker$Queue.<init>()V
theorem M5 {gc : Nat → Nat} {d : Nat} {q : PT} {h : AH} {a0 : Nat}
    (H : (∃ vs1 : List Value, at_ h a0 8 vs1 ∧ 0 < vs1.length ∧ ((0 : Int32) = 0 ∨ (0 : Int32) = 1) ∧ ∀ h2 : AH, h2 = ah_set h a0 (8, vs1.set 0 (.int 0)) → (∃ vs3 : List Value, at_ h2 a0 8 vs3 ∧ 1 < vs3.length ∧ True ∧ ∀ h4 : AH, h4 = ah_set h2 a0 (8, vs3.set 1 (.int 1)) → (∃ vs5 : List Value, at_ h4 a0 8 vs5 ∧ 2 < vs5.length ∧ True ∧ ∀ h6 : AH, h6 = ah_set h4 a0 (8, vs5.set 2 (.int ((-1)))) → (∃ vs7 : List Value, at_ h6 a0 8 vs7 ∧ 3 < vs7.length ∧ ((0 : Int32) = 0 ∨ (0 : Int32) = 1) ∧ ∀ h8 : AH, h8 = ah_set h6 a0 (8, vs7.set 3 (.int 0)) → (1 ≤ h8.2.1 ∧ (dfl 10).length ≤ h8.2.2.1 ∧ ∀ (b9 : Nat) (h10 : AH), b9 = h8.1 → h10 = ah_new h8 (10, dfl 10) → (∃ Q11 : PT, WP gc d 1 [.ref b9] h10 Q11 ∧ ∀ (r12 : Option Value) (h13 : AH), Q11 r12 h13 → r12 = none ∧ (∃ vs14 : List Value, at_ h13 a0 8 vs14 ∧ 4 < vs14.length ∧ True ∧ ∀ h15 : AH, h15 = ah_set h13 a0 (8, vs14.set 4 (.ref b9)) → (1 ≤ h15.2.1 ∧ (dfl 10).length ≤ h15.2.2.1 ∧ ∀ (b16 : Nat) (h17 : AH), b16 = h15.1 → h17 = ah_new h15 (10, dfl 10) → (∃ Q18 : PT, WP gc d 1 [.ref b16] h17 Q18 ∧ ∀ (r19 : Option Value) (h20 : AH), Q18 r19 h20 → r19 = none ∧ (∃ vs21 : List Value, at_ h20 a0 8 vs21 ∧ 5 < vs21.length ∧ True ∧ ∀ h22 : AH, h22 = ah_set h20 a0 (8, vs21.set 5 (.ref b16)) → q none h22))))))))))) : WP gc (d + 1) 5 [.ref a0] h q := ⟨q, fun _ _ z => z, Tf_fold H⟩
-- QueueBroker$Channel.<init>()V
theorem M6 {gc : Nat → Nat} {d : Nat} {q : PT} {h : AH} {a0 : Nat}
    (H : (∃ vs1 : List Value, at_ h a0 2 vs1 ∧ 0 < vs1.length ∧ True ∧ ∀ h2 : AH, h2 = ah_set h a0 (2, vs1.set 0 (.int 12)) → (∃ vs3 : List Value, at_ h2 a0 2 vs3 ∧ 1 < vs3.length ∧ ((0 : Int32) = 0 ∨ (0 : Int32) = 1) ∧ ∀ h4 : AH, h4 = ah_set h2 a0 (2, vs3.set 1 (.int 0)) → (∃ vs5 : List Value, at_ h4 a0 2 vs5 ∧ 2 < vs5.length ∧ True ∧ ∀ h6 : AH, h6 = ah_set h4 a0 (2, vs5.set 2 (.int 0)) → (1 ≤ h6.2.1 ∧ (dfl 10).length ≤ h6.2.2.1 ∧ ∀ (b7 : Nat) (h8 : AH), b7 = h6.1 → h8 = ah_new h6 (10, dfl 10) → (∃ Q9 : PT, WP gc d 1 [.ref b7] h8 Q9 ∧ ∀ (r10 : Option Value) (h11 : AH), Q9 r10 h11 → r10 = none ∧ (∃ vs12 : List Value, at_ h11 a0 2 vs12 ∧ 3 < vs12.length ∧ True ∧ ∀ h13 : AH, h13 = ah_set h11 a0 (2, vs12.set 3 (.ref b7)) → (1 ≤ h13.2.1 ∧ (dfl 10).length ≤ h13.2.2.1 ∧ ∀ (b14 : Nat) (h15 : AH), b14 = h13.1 → h15 = ah_new h13 (10, dfl 10) → (∃ Q16 : PT, WP gc d 1 [.ref b14] h15 Q16 ∧ ∀ (r17 : Option Value) (h18 : AH), Q16 r17 h18 → r17 = none ∧ (∃ vs19 : List Value, at_ h18 a0 2 vs19 ∧ 4 < vs19.length ∧ True ∧ ∀ h20 : AH, h20 = ah_set h18 a0 (2, vs19.set 4 (.ref b14)) → q none h20)))))))))) : WP gc (d + 1) 6 [.ref a0] h q := ⟨q, fun _ _ z => z, Tf_fold H⟩
-- QueueBroker.exchange(IIZ)I
theorem B7_61 {gc : Nat → Nat} {d : Nat} {q : PT} {h : AH} {a0 : Nat} {x1 : Int32} {x2 : Int32} {x3 : Int32} {a4 : Nat}
    (H : (∃ vs1 : List Value, at_ h a4 6 vs1 ∧ 0 < vs1.length ∧ ((1 : Int32) = 0 ∨ (1 : Int32) = 1) ∧ ∀ h2 : AH, h2 = ah_set h a4 (6, vs1.set 0 (.int 1)) → (∃ vs3 : List Value, at_ h2 a4 6 vs3 ∧ 1 < vs3.length ∧ True ∧ ∀ h4 : AH, h4 = ah_set h2 a4 (6, vs3.set 1 (.int x2)) → (∃ vs5 : List Value, at_ h4 a4 6 vs5 ∧ 2 < vs5.length ∧ ((x3 : Int32) = 0 ∨ (x3 : Int32) = 1) ∧ ∀ h6 : AH, h6 = ah_set h4 a4 (6, vs5.set 2 (.int x3)) → q (some (.int 0)) h6)))) : TT gc d 7 q 61 [.ref a0, .int x1, .int x2, .int x3, .ref a4] [] h := Tf_fold H
theorem B7_60 {gc : Nat → Nat} {d : Nat} {q : PT} {h : AH} {a0 : Nat} {x1 : Int32} {x2 : Int32} {x3 : Int32} {a4 : Nat} {sx0 : Int32}
    (H : q (some (.int sx0)) h) : TT gc d 7 q 60 [.ref a0, .int x1, .int x2, .int x3, .ref a4] [.int sx0] h := Tf_fold H
theorem B7_58 {gc : Nat → Nat} {d : Nat} {q : PT} {h : AH} {a0 : Nat} {x1 : Int32} {x2 : Int32} {x3 : Int32} {a4 : Nat}
    (H : TT gc d 7 q 60 [.ref a0, .int x1, .int x2, .int x3, .ref a4] [.int ((-3))] h) : TT gc d 7 q 58 [.ref a0, .int x1, .int x2, .int x3, .ref a4] [] h := Tf_fold H
theorem B7_20 {gc : Nat → Nat} {d : Nat} {q : PT} {h : AH} {a0 : Nat} {x1 : Int32} {x2 : Int32} {x3 : Int32}
    (H : (∃ (vs1 : List Value) (b2 : Nat), at_ h a0 9 vs1 ∧ vs1[0]? = some (.ref b2) ∧ (∃ (t3 : Nat) (vs4 : List Value) (b5 : Nat), at_ h b2 t3 vs4 ∧ isRA t3 = true ∧ ¬ (x1 : Int32) < 0 ∧ vs4[(x1 : Int32).toNatClampNeg]? = some (.ref b5) ∧ (∃ (vs6 : List Value) (z7 : Int32), at_ h b5 6 vs6 ∧ vs6[0]? = some (.int z7) ∧ (((z7 : Int32) = 0 → TT gc d 7 q 61 [.ref a0, .int x1, .int x2, .int x3, .ref b5] [] h) ∧ (¬ (z7 : Int32) = 0 → (∃ (vs8 : List Value) (z9 : Int32), at_ h b5 6 vs8 ∧ vs8[1]? = some (.int z9) ∧ ((¬ (z9 : Int32) = x2 → TT gc d 7 q 58 [.ref a0, .int x1, .int x2, .int x3, .ref b5] [] h) ∧ ((z9 : Int32) = x2 → (∃ (vs10 : List Value) (z11 : Int32), at_ h b5 6 vs10 ∧ vs10[2]? = some (.int z11) ∧ ((¬ (z11 : Int32) = x3 → TT gc d 7 q 58 [.ref a0, .int x1, .int x2, .int x3, .ref b5] [] h) ∧ ((z11 : Int32) = x3 → TT gc d 7 q 60 [.ref a0, .int x1, .int x2, .int x3, .ref b5] [.int 0] h)))))))))))) : TT gc d 7 q 20 [.ref a0, .int x1, .int x2, .int x3, .retAddr 0] [] h := Tf_fold H
theorem B7_18 {gc : Nat → Nat} {d : Nat} {q : PT} {h : AH} {a0 : Nat} {x1 : Int32} {x2 : Int32} {x3 : Int32}
    (H : q (some (.int ((-1)))) h) : TT gc d 7 q 18 [.ref a0, .int x1, .int x2, .int x3, .retAddr 0] [] h := Tf_fold H
theorem M7 {gc : Nat → Nat} {d : Nat} {q : PT} {h : AH} {a0 : Nat} {x1 : Int32} {x2 : Int32} {x3 : Int32}
    (H : (∃ Q1 : PT, WP gc d 8 [.int x1, .int 0, .int 4] h Q1 ∧ ∀ (r2 : Option Value) (h3 : AH), Q1 r2 h3 → ∃ z4 : Int32, r2 = some (.int z4) ∧ (((z4 : Int32) = 0 → TT gc d 7 q 18 [.ref a0, .int x1, .int x2, .int x3, .retAddr 0] [] h3) ∧ (¬ (z4 : Int32) = 0 → (∃ Q5 : PT, WP gc d 8 [.int x2, .int 0, .int 2] h3 Q5 ∧ ∀ (r6 : Option Value) (h7 : AH), Q5 r6 h7 → ∃ z8 : Int32, r6 = some (.int z8) ∧ ((¬ (z8 : Int32) = 0 → TT gc d 7 q 20 [.ref a0, .int x1, .int x2, .int x3, .retAddr 0] [] h7) ∧ ((z8 : Int32) = 0 → TT gc d 7 q 18 [.ref a0, .int x1, .int x2, .int x3, .retAddr 0] [] h7))))))) : WP gc (d + 1) 7 [.ref a0, .int x1, .int x2, .int x3] h q := ⟨q, fun _ _ z => z, Tf_fold H⟩
-- QueueBroker.isWithin(III)Z
theorem B8_15 {gc : Nat → Nat} {d : Nat} {q : PT} {h : AH} {x0 : Int32} {x1 : Int32} {x2 : Int32} {sx0 : Int32}
    (H : (((sx0 : Int32) = 0 ∨ (sx0 : Int32) = 1) ∧ q (some (.int sx0)) h)) : TT gc d 8 q 15 [.int x0, .int x1, .int x2] [.int sx0] h := Tf_fold H
theorem B8_14 {gc : Nat → Nat} {d : Nat} {q : PT} {h : AH} {x0 : Int32} {x1 : Int32} {x2 : Int32}
    (H : TT gc d 8 q 15 [.int x0, .int x1, .int x2] [.int 0] h) : TT gc d 8 q 14 [.int x0, .int x1, .int x2] [] h := Tf_fold H
theorem M8 {gc : Nat → Nat} {d : Nat} {q : PT} {h : AH} {x0 : Int32} {x1 : Int32} {x2 : Int32}
    (H : (((x0 : Int32) < x1 → TT gc d 8 q 14 [.int x0, .int x1, .int x2] [] h) ∧ (¬ (x0 : Int32) < x1 → ((x2 < (x0 : Int32) → TT gc d 8 q 14 [.int x0, .int x1, .int x2] [] h) ∧ (¬ x2 < (x0 : Int32) → TT gc d 8 q 15 [.int x0, .int x1, .int x2] [.int 1] h))))) : WP gc (d + 1) 8 [.int x0, .int x1, .int x2] h q := ⟨q, fun _ _ z => z, Tf_fold H⟩
-- QueueBroker.queue(IIIZ)I
theorem B9_81 {gc : Nat → Nat} {d : Nat} {q : PT} {h : AH} {a0 : Nat} {x1 : Int32} {x2 : Int32} {x3 : Int32} {x4 : Int32} {a5 : Nat}
    (H : (∃ vs1 : List Value, at_ h a5 8 vs1 ∧ 0 < vs1.length ∧ ((1 : Int32) = 0 ∨ (1 : Int32) = 1) ∧ ∀ h2 : AH, h2 = ah_set h a5 (8, vs1.set 0 (.int 1)) → (∃ vs3 : List Value, at_ h2 a5 8 vs3 ∧ 1 < vs3.length ∧ True ∧ ∀ h4 : AH, h4 = ah_set h2 a5 (8, vs3.set 1 (.int x2)) → (∃ vs5 : List Value, at_ h4 a5 8 vs5 ∧ 2 < vs5.length ∧ True ∧ ∀ h6 : AH, h6 = ah_set h4 a5 (8, vs5.set 2 (.int x3)) → (∃ vs7 : List Value, at_ h6 a5 8 vs7 ∧ 3 < vs7.length ∧ ((x4 : Int32) = 0 ∨ (x4 : Int32) = 1) ∧ ∀ h8 : AH, h8 = ah_set h6 a5 (8, vs7.set 3 (.int x4)) → q (some (.int 0)) h8))))) : TT gc d 9 q 81 [.ref a0, .int x1, .int x2, .int x3, .int x4, .ref a5] [] h := Tf_fold H
theorem B9_80 {gc : Nat → Nat} {d : Nat} {q : PT} {h : AH} {a0 : Nat} {x1 : Int32} {x2 : Int32} {x3 : Int32} {x4 : Int32} {a5 : Nat} {sx0 : Int32}
    (H : q (some (.int sx0)) h) : TT gc d 9 q 80 [.ref a0, .int x1, .int x2, .int x3, .int x4, .ref a5] [.int sx0] h := Tf_fold H
theorem B9_78 {gc : Nat → Nat} {d : Nat} {q : PT} {h : AH} {a0 : Nat} {x1 : Int32} {x2 : Int32} {x3 : Int32} {x4 : Int32} {a5 : Nat}
    (H : TT gc d 9 q 80 [.ref a0, .int x1, .int x2, .int x3, .int x4, .ref a5] [.int ((-3))] h) : TT gc d 9 q 78 [.ref a0, .int x1, .int x2, .int x3, .int x4, .ref a5] [] h := Tf_fold H
theorem B9_30 {gc : Nat → Nat} {d : Nat} {q : PT} {h : AH} {a0 : Nat} {x1 : Int32} {x2 : Int32} {x3 : Int32} {x4 : Int32}
    (H : (∃ (vs1 : List Value) (b2 : Nat), at_ h a0 9 vs1 ∧ vs1[1]? = some (.ref b2) ∧ (∃ (t3 : Nat) (vs4 : List Value) (b5 : Nat), at_ h b2 t3 vs4 ∧ isRA t3 = true ∧ ¬ (x1 : Int32) < 0 ∧ vs4[(x1 : Int32).toNatClampNeg]? = some (.ref b5) ∧ (∃ (vs6 : List Value) (z7 : Int32), at_ h b5 8 vs6 ∧ vs6[0]? = some (.int z7) ∧ (((z7 : Int32) = 0 → TT gc d 9 q 81 [.ref a0, .int x1, .int x2, .int x3, .int x4, .ref b5] [] h) ∧ (¬ (z7 : Int32) = 0 → (∃ (vs8 : List Value) (z9 : Int32), at_ h b5 8 vs8 ∧ vs8[1]? = some (.int z9) ∧ ((¬ (z9 : Int32) = x2 → TT gc d 9 q 78 [.ref a0, .int x1, .int x2, .int x3, .int x4, .ref b5] [] h) ∧ ((z9 : Int32) = x2 → (∃ (vs10 : List Value) (z11 : Int32), at_ h b5 8 vs10 ∧ vs10[2]? = some (.int z11) ∧ ((¬ (z11 : Int32) = x3 → TT gc d 9 q 78 [.ref a0, .int x1, .int x2, .int x3, .int x4, .ref b5] [] h) ∧ ((z11 : Int32) = x3 → (∃ (vs12 : List Value) (z13 : Int32), at_ h b5 8 vs12 ∧ vs12[3]? = some (.int z13) ∧ ((¬ (z13 : Int32) = x4 → TT gc d 9 q 78 [.ref a0, .int x1, .int x2, .int x3, .int x4, .ref b5] [] h) ∧ ((z13 : Int32) = x4 → TT gc d 9 q 80 [.ref a0, .int x1, .int x2, .int x3, .int x4, .ref b5] [.int 0] h))))))))))))))) : TT gc d 9 q 30 [.ref a0, .int x1, .int x2, .int x3, .int x4, .retAddr 0] [] h := Tf_fold H
theorem B9_28 {gc : Nat → Nat} {d : Nat} {q : PT} {h : AH} {a0 : Nat} {x1 : Int32} {x2 : Int32} {x3 : Int32} {x4 : Int32}
    (H : q (some (.int ((-1)))) h) : TT gc d 9 q 28 [.ref a0, .int x1, .int x2, .int x3, .int x4, .retAddr 0] [] h := Tf_fold H
theorem M9 {gc : Nat → Nat} {d : Nat} {q : PT} {h : AH} {a0 : Nat} {x1 : Int32} {x2 : Int32} {x3 : Int32} {x4 : Int32}
    (H : (∃ Q1 : PT, WP gc d 8 [.int x1, .int 0, .int 5] h Q1 ∧ ∀ (r2 : Option Value) (h3 : AH), Q1 r2 h3 → ∃ z4 : Int32, r2 = some (.int z4) ∧ (((z4 : Int32) = 0 → TT gc d 9 q 28 [.ref a0, .int x1, .int x2, .int x3, .int x4, .retAddr 0] [] h3) ∧ (¬ (z4 : Int32) = 0 → (∃ Q5 : PT, WP gc d 8 [.int x2, .int 1, .int 12] h3 Q5 ∧ ∀ (r6 : Option Value) (h7 : AH), Q5 r6 h7 → ∃ z8 : Int32, r6 = some (.int z8) ∧ (((z8 : Int32) = 0 → TT gc d 9 q 28 [.ref a0, .int x1, .int x2, .int x3, .int x4, .retAddr 0] [] h7) ∧ (¬ (z8 : Int32) = 0 → (∃ Q9 : PT, WP gc d 8 [.int x3, .int ((-1)), .int 4] h7 Q9 ∧ ∀ (r10 : Option Value) (h11 : AH), Q9 r10 h11 → ∃ z12 : Int32, r10 = some (.int z12) ∧ ((¬ (z12 : Int32) = 0 → TT gc d 9 q 30 [.ref a0, .int x1, .int x2, .int x3, .int x4, .retAddr 0] [] h11) ∧ ((z12 : Int32) = 0 → TT gc d 9 q 28 [.ref a0, .int x1, .int x2, .int x3, .int x4, .retAddr 0] [] h11)))))))))) : WP gc (d + 1) 9 [.ref a0, .int x1, .int x2, .int x3, .int x4] h q := ⟨q, fun _ _ z => z, Tf_fold H⟩
-- QueueBroker.bind(III)I
theorem B10_54 {gc : Nat → Nat} {d : Nat} {q : PT} {h : AH} {a0 : Nat} {x1 : Int32} {x2 : Int32} {x3 : Int32}
    (H : (∃ (vs1 : List Value) (b2 : Nat), at_ h a0 9 vs1 ∧ vs1[3]? = some (.ref b2) ∧ (1 ≤ h.2.1 ∧ (dfl 1).length ≤ h.2.2.1 ∧ ∀ (b3 : Nat) (h4 : AH), b3 = h.1 → h4 = ah_new h (1, dfl 1) → (∃ Q5 : PT, WP gc d 22 [.ref b3, .int x1, .int x2, .int x3] h4 Q5 ∧ ∀ (r6 : Option Value) (h7 : AH), Q5 r6 h7 → r6 = none ∧ ((∃ vs11 : List Value, at_ h7 b2 10 vs11) ∧ ∃ Q8 : PT, WP gc d 23 [.ref b2, .ref b3] h7 Q8 ∧ ∀ (r9 : Option Value) (h10 : AH), Q8 r9 h10 → ∃ z12 : Int32, r9 = some (.int z12) ∧ q (some (.int 0)) h10))))) : TT gc d 10 q 54 [.ref a0, .int x1, .int x2, .int x3] [] h := Tf_fold H
theorem B10_39 {gc : Nat → Nat} {d : Nat} {q : PT} {h : AH} {a0 : Nat} {x1 : Int32} {x2 : Int32} {x3 : Int32}
    (H : (∃ (vs1 : List Value) (b2 : Nat), at_ h a0 9 vs1 ∧ vs1[3]? = some (.ref b2) ∧ ((∃ vs6 : List Value, at_ h b2 10 vs6) ∧ ∃ Q3 : PT, WP gc d 17 [.ref b2] h Q3 ∧ ∀ (r4 : Option Value) (h5 : AH), Q3 r4 h5 → ∃ z7 : Int32, r4 = some (.int z7) ∧ (((z7 : Int32) < 24 → TT gc d 10 q 54 [.ref a0, .int x1, .int x2, .int x3] [] h5) ∧ (¬ (z7 : Int32) < 24 → q (some (.int ((-2)))) h5))))) : TT gc d 10 q 39 [.ref a0, .int x1, .int x2, .int x3] [] h := Tf_fold H
theorem B10_25 {gc : Nat → Nat} {d : Nat} {q : PT} {h : AH} {a0 : Nat} {x1 : Int32} {x2 : Int32} {x3 : Int32}
    (H : ((∃ vs4 : List Value, at_ h a0 9 vs4) ∧ ∃ Q1 : PT, WP gc d 16 [.ref a0, .int x1, .int x2, .int x3] h Q1 ∧ ∀ (r2 : Option Value) (h3 : AH), Q1 r2 h3 → ∃ z5 : Int32, r2 = some (.int z5) ∧ (((z5 : Int32) = (((-1))) → TT gc d 10 q 39 [.ref a0, .int x1, .int x2, .int x3] [] h3) ∧ (¬ (z5 : Int32) = (((-1))) → q (some (.int ((-3)))) h3)))) : TT gc d 10 q 25 [.ref a0, .int x1, .int x2, .int x3] [] h := Tf_fold H
theorem B10_23 {gc : Nat → Nat} {d : Nat} {q : PT} {h : AH} {a0 : Nat} {x1 : Int32} {x2 : Int32} {x3 : Int32}
    (H : q (some (.int ((-1)))) h) : TT gc d 10 q 23 [.ref a0, .int x1, .int x2, .int x3] [] h := Tf_fold H
theorem M10 {gc : Nat → Nat} {d : Nat} {q : PT} {h : AH} {a0 : Nat} {x1 : Int32} {x2 : Int32} {x3 : Int32}
    (H : ((∃ vs4 : List Value, at_ h a0 9 vs4) ∧ ∃ Q1 : PT, WP gc d 11 [.ref a0, .int x1] h Q1 ∧ ∀ (r2 : Option Value) (h3 : AH), Q1 r2 h3 → ∃ z5 : Int32, r2 = some (.int z5) ∧ (((z5 : Int32) = 0 → TT gc d 10 q 23 [.ref a0, .int x1, .int x2, .int x3] [] h3) ∧ (¬ (z5 : Int32) = 0 → ((∃ vs9 : List Value, at_ h3 a0 9 vs9) ∧ ∃ Q6 : PT, WP gc d 12 [.ref a0, .int x2] h3 Q6 ∧ ∀ (r7 : Option Value) (h8 : AH), Q6 r7 h8 → ∃ z10 : Int32, r7 = some (.int z10) ∧ (((z10 : Int32) = 0 → TT gc d 10 q 23 [.ref a0, .int x1, .int x2, .int x3] [] h8) ∧ (¬ (z10 : Int32) = 0 → (∃ Q11 : PT, WP gc d 13 [.int x3] h8 Q11 ∧ ∀ (r12 : Option Value) (h13 : AH), Q11 r12 h13 → ∃ z14 : Int32, r12 = some (.int z14) ∧ ((¬ (z14 : Int32) = 0 → TT gc d 10 q 25 [.ref a0, .int x1, .int x2, .int x3] [] h13) ∧ ((z14 : Int32) = 0 → TT gc d 10 q 23 [.ref a0, .int x1, .int x2, .int x3] [] h13)))))))))) : WP gc (d + 1) 10 [.ref a0, .int x1, .int x2, .int x3] h q := ⟨q, fun _ _ z => z, Tf_fold H⟩
-- QueueBroker.isDeclaredExchange(I)Z
theorem B11_26 {gc : Nat → Nat} {d : Nat} {q : PT} {h : AH} {a0 : Nat} {x1 : Int32} {sx0 : Int32}
    (H : (((sx0 : Int32) = 0 ∨ (sx0 : Int32) = 1) ∧ q (some (.int sx0)) h)) : TT gc d 11 q 26 [.ref a0, .int x1] [.int sx0] h := Tf_fold H
theorem B11_25 {gc : Nat → Nat} {d : Nat} {q : PT} {h : AH} {a0 : Nat} {x1 : Int32}
    (H : TT gc d 11 q 26 [.ref a0, .int x1] [.int 0] h) : TT gc d 11 q 25 [.ref a0, .int x1] [] h := Tf_fold H
theorem M11 {gc : Nat → Nat} {d : Nat} {q : PT} {h : AH} {a0 : Nat} {x1 : Int32}
    (H : (∃ Q1 : PT, WP gc d 8 [.int x1, .int 0, .int 4] h Q1 ∧ ∀ (r2 : Option Value) (h3 : AH), Q1 r2 h3 → ∃ z4 : Int32, r2 = some (.int z4) ∧ (((z4 : Int32) = 0 → TT gc d 11 q 25 [.ref a0, .int x1] [] h3) ∧ (¬ (z4 : Int32) = 0 → (∃ (vs5 : List Value) (b6 : Nat), at_ h3 a0 9 vs5 ∧ vs5[0]? = some (.ref b6) ∧ (∃ (t7 : Nat) (vs8 : List Value) (b9 : Nat), at_ h3 b6 t7 vs8 ∧ isRA t7 = true ∧ ¬ (x1 : Int32) < 0 ∧ vs8[(x1 : Int32).toNatClampNeg]? = some (.ref b9) ∧ (∃ (vs10 : List Value) (z11 : Int32), at_ h3 b9 6 vs10 ∧ vs10[0]? = some (.int z11) ∧ (((z11 : Int32) = 0 → TT gc d 11 q 25 [.ref a0, .int x1] [] h3) ∧ (¬ (z11 : Int32) = 0 → TT gc d 11 q 26 [.ref a0, .int x1] [.int 1] h3))))))))) : WP gc (d + 1) 11 [.ref a0, .int x1] h q := ⟨q, fun _ _ z => z, Tf_fold H⟩
-- QueueBroker.isDeclaredQueue(I)Z
theorem B12_26 {gc : Nat → Nat} {d : Nat} {q : PT} {h : AH} {a0 : Nat} {x1 : Int32} {sx0 : Int32}
    (H : (((sx0 : Int32) = 0 ∨ (sx0 : Int32) = 1) ∧ q (some (.int sx0)) h)) : TT gc d 12 q 26 [.ref a0, .int x1] [.int sx0] h := Tf_fold H
theorem B12_25 {gc : Nat → Nat} {d : Nat} {q : PT} {h : AH} {a0 : Nat} {x1 : Int32}
    (H : TT gc d 12 q 26 [.ref a0, .int x1] [.int 0] h) : TT gc d 12 q 25 [.ref a0, .int x1] [] h := Tf_fold H
theorem M12 {gc : Nat → Nat} {d : Nat} {q : PT} {h : AH} {a0 : Nat} {x1 : Int32}
    (H : (∃ Q1 : PT, WP gc d 8 [.int x1, .int 0, .int 5] h Q1 ∧ ∀ (r2 : Option Value) (h3 : AH), Q1 r2 h3 → ∃ z4 : Int32, r2 = some (.int z4) ∧ (((z4 : Int32) = 0 → TT gc d 12 q 25 [.ref a0, .int x1] [] h3) ∧ (¬ (z4 : Int32) = 0 → (∃ (vs5 : List Value) (b6 : Nat), at_ h3 a0 9 vs5 ∧ vs5[1]? = some (.ref b6) ∧ (∃ (t7 : Nat) (vs8 : List Value) (b9 : Nat), at_ h3 b6 t7 vs8 ∧ isRA t7 = true ∧ ¬ (x1 : Int32) < 0 ∧ vs8[(x1 : Int32).toNatClampNeg]? = some (.ref b9) ∧ (∃ (vs10 : List Value) (z11 : Int32), at_ h3 b9 8 vs10 ∧ vs10[0]? = some (.int z11) ∧ (((z11 : Int32) = 0 → TT gc d 12 q 25 [.ref a0, .int x1] [] h3) ∧ (¬ (z11 : Int32) = 0 → TT gc d 12 q 26 [.ref a0, .int x1] [.int 1] h3))))))))) : WP gc (d + 1) 12 [.ref a0, .int x1] h q := ⟨q, fun _ _ z => z, Tf_fold H⟩
-- QueueBroker.isPattern(I)Z
theorem B13_27 {gc : Nat → Nat} {d : Nat} {q : PT} {h : AH} {x0 : Int32} {x1 : Int32}
    (H : (((1 : Int32) = 0 ∨ (1 : Int32) = 1) ∧ q (some (.int 1)) h)) : TT gc d 13 q 27 [.int x0, .int x1] [] h := Tf_fold H
theorem B13_21 {gc : Nat → Nat} {d : Nat} {q : PT} {h : AH} {x0 : Int32} {x1 : Int32}
    (H : TT gc d 13 q 5 [.int x0, .int (x1 + 1)] [] h) : TT gc d 13 q 21 [.int x0, .int x1] [] h := Tf_fold H
theorem B13_5 {gc : Nat → Nat} {d : Nat} {q : PT} {h : AH} {x0 : Int32} {x1 : Int32}
    (H : ((8 ≤ (x1 : Int32) → TT gc d 13 q 27 [.int x0, .int x1] [] h) ∧ (¬ 8 ≤ (x1 : Int32) → (∃ Q1 : PT, WP gc d 15 [.int x0, .int x1] h Q1 ∧ ∀ (r2 : Option Value) (h3 : AH), Q1 r2 h3 → ∃ z4 : Int32, r2 = some (.int z4) ∧ (((z4 : Int32) = 0 → TT gc d 13 q 21 [.int x0, .int x1] [] h3) ∧ (¬ (z4 : Int32) = 0 → (((0 : Int32) = 0 ∨ (0 : Int32) = 1) ∧ q (some (.int 0)) h3))))))) : TT gc d 13 q 5 [.int x0, .int x1] [] h := Tf_fold H
theorem M13 {gc : Nat → Nat} {d : Nat} {q : PT} {h : AH} {x0 : Int32}
    (H : (∃ Q1 : PT, WP gc d 14 [.int x0] h Q1 ∧ ∀ (r2 : Option Value) (h3 : AH), Q1 r2 h3 → ∃ z4 : Int32, r2 = some (.int z4) ∧ TT gc d 13 q 5 [.int x0, .int z4] [] h3)) : WP gc (d + 1) 13 [.int x0] h q := ⟨q, fun _ _ z => z, Tf_fold H⟩
-- QueueBroker.countItems(I)I
theorem B14_22 {gc : Nat → Nat} {d : Nat} {q : PT} {h : AH} {x0 : Int32} {x1 : Int32}
    (H : q (some (.int x1)) h) : TT gc d 14 q 22 [.int x0, .int x1] [] h := Tf_fold H
theorem B14_2 {gc : Nat → Nat} {d : Nat} {q : PT} {h : AH} {x0 : Int32} {x1 : Int32}
    (H : ((8 ≤ (x1 : Int32) → TT gc d 14 q 22 [.int x0, .int x1] [] h) ∧ (¬ 8 ≤ (x1 : Int32) → (∃ Q1 : PT, WP gc d 15 [.int x0, .int x1] h Q1 ∧ ∀ (r2 : Option Value) (h3 : AH), Q1 r2 h3 → ∃ z4 : Int32, r2 = some (.int z4) ∧ (((z4 : Int32) = 0 → TT gc d 14 q 22 [.int x0, .int x1] [] h3) ∧ (¬ (z4 : Int32) = 0 → TT gc d 14 q 2 [.int x0, .int (x1 + 1)] [] h3)))))) : TT gc d 14 q 2 [.int x0, .int x1] [] h := Tf_fold H
theorem M14 {gc : Nat → Nat} {d : Nat} {q : PT} {h : AH} {x0 : Int32}
    (H : TT gc d 14 q 2 [.int x0, .int 0] [] h) : WP gc (d + 1) 14 [.int x0] h q := ⟨q, fun _ _ z => z, Tf_fold H⟩
-- QueueBroker.itemAt(II)I
theorem M15 {gc : Nat → Nat} {d : Nat} {q : PT} {h : AH} {x0 : Int32} {x1 : Int32}
    (H : q (some (.int ((((x0.toUInt32 >>> (((4 * x1) : Int32).toUInt32 &&& Int32.toUInt32 31)).toInt32)) &&& 15))) h) : WP gc (d + 1) 15 [.int x0, .int x1] h q := ⟨q, fun _ _ z => z, Tf_fold H⟩
-- QueueBroker.findBinding(III)I
theorem B16_65 {gc : Nat → Nat} {d : Nat} {q : PT} {h : AH} {a0 : Nat} {x1 : Int32} {x2 : Int32} {x3 : Int32} {x4 : Int32} {v5 : Value}
    (H : q (some (.int ((-1)))) h) : TT gc d 16 q 65 [.ref a0, .int x1, .int x2, .int x3, .int x4, v5] [] h := Tf_fold H
theorem B16_59 {gc : Nat → Nat} {d : Nat} {q : PT} {h : AH} {a0 : Nat} {x1 : Int32} {x2 : Int32} {x3 : Int32} {x4 : Int32} {a5 : Nat}
    (H : TT gc d 16 q 3 [.ref a0, .int x1, .int x2, .int x3, .int (x4 + 1), .ref a5] [] h) : TT gc d 16 q 59 [.ref a0, .int x1, .int x2, .int x3, .int x4, .ref a5] [] h := Tf_fold H
theorem B16_3 {gc : Nat → Nat} {d : Nat} {q : PT} {h : AH} {a0 : Nat} {x1 : Int32} {x2 : Int32} {x3 : Int32} {x4 : Int32} {v5 : Value}
    (H : (∃ (vs1 : List Value) (b2 : Nat), at_ h a0 9 vs1 ∧ vs1[3]? = some (.ref b2) ∧ ((∃ vs6 : List Value, at_ h b2 10 vs6) ∧ ∃ Q3 : PT, WP gc d 17 [.ref b2] h Q3 ∧ ∀ (r4 : Option Value) (h5 : AH), Q3 r4 h5 → ∃ z7 : Int32, r4 = some (.int z7) ∧ ((z7 ≤ (x4 : Int32) → TT gc d 16 q 65 [.ref a0, .int x1, .int x2, .int x3, .int x4, v5] [] h5) ∧ (¬ z7 ≤ (x4 : Int32) → (∃ (vs8 : List Value) (b9 : Nat), at_ h5 a0 9 vs8 ∧ vs8[3]? = some (.ref b9) ∧ ((∃ vs13 : List Value, at_ h5 b9 10 vs13) ∧ ∃ Q10 : PT, WP gc d 18 [.ref b9, .int x4] h5 Q10 ∧ ∀ (r11 : Option Value) (h12 : AH), Q10 r11 h12 → ∃ b14 : Nat, r11 = some (.ref b14) ∧ (∃ vs15 : List Value, at_ h12 b14 1 vs15 ∧ (∃ (vs16 : List Value) (z17 : Int32), at_ h12 b14 1 vs16 ∧ vs16[0]? = some (.int z17) ∧ ((¬ (z17 : Int32) = x1 → TT gc d 16 q 59 [.ref a0, .int x1, .int x2, .int x3, .int x4, .ref b14] [] h12) ∧ ((z17 : Int32) = x1 → (∃ (vs18 : List Value) (z19 : Int32), at_ h12 b14 1 vs18 ∧ vs18[1]? = some (.int z19) ∧ ((¬ (z19 : Int32) = x2 → TT gc d 16 q 59 [.ref a0, .int x1, .int x2, .int x3, .int x4, .ref b14] [] h12) ∧ ((z19 : Int32) = x2 → (∃ (vs20 : List Value) (z21 : Int32), at_ h12 b14 1 vs20 ∧ vs20[2]? = some (.int z21) ∧ ((¬ (z21 : Int32) = x3 → TT gc d 16 q 59 [.ref a0, .int x1, .int x2, .int x3, .int x4, .ref b14] [] h12) ∧ ((z21 : Int32) = x3 → q (some (.int x4)) h12))))))))))))))))) : TT gc d 16 q 3 [.ref a0, .int x1, .int x2, .int x3, .int x4, v5] [] h := Tf_fold H
theorem M16 {gc : Nat → Nat} {d : Nat} {q : PT} {h : AH} {a0 : Nat} {x1 : Int32} {x2 : Int32} {x3 : Int32}
    (H : TT gc d 16 q 3 [.ref a0, .int x1, .int x2, .int x3, .int 0, .retAddr 0] [] h) : WP gc (d + 1) 16 [.ref a0, .int x1, .int x2, .int x3] h q := ⟨q, fun _ _ z => z, Tf_fold H⟩
-- QueueBroker$Binding.<init>(III)V
theorem M22 {gc : Nat → Nat} {d : Nat} {q : PT} {h : AH} {a0 : Nat} {x1 : Int32} {x2 : Int32} {x3 : Int32}
    (H : (∃ vs1 : List Value, at_ h a0 1 vs1 ∧ 0 < vs1.length ∧ True ∧ ∀ h2 : AH, h2 = ah_set h a0 (1, vs1.set 0 (.int x1)) → (∃ vs3 : List Value, at_ h2 a0 1 vs3 ∧ 1 < vs3.length ∧ True ∧ ∀ h4 : AH, h4 = ah_set h2 a0 (1, vs3.set 1 (.int x2)) → (∃ vs5 : List Value, at_ h4 a0 1 vs5 ∧ 2 < vs5.length ∧ True ∧ ∀ h6 : AH, h6 = ah_set h4 a0 (1, vs5.set 2 (.int x3)) → q none h6)))) : WP gc (d + 1) 22 [.ref a0, .int x1, .int x2, .int x3] h q := ⟨q, fun _ _ z => z, Tf_fold H⟩
-- QueueBroker.unbind(III)I
theorem B31_43 {gc : Nat → Nat} {d : Nat} {q : PT} {h : AH} {a0 : Nat} {x1 : Int32} {x2 : Int32} {x3 : Int32} {x4 : Int32}
    (H : (∃ (vs1 : List Value) (b2 : Nat), at_ h a0 9 vs1 ∧ vs1[3]? = some (.ref b2) ∧ ((∃ vs6 : List Value, at_ h b2 10 vs6) ∧ ∃ Q3 : PT, WP gc d 32 [.ref b2, .int x4] h Q3 ∧ ∀ (r4 : Option Value) (h5 : AH), Q3 r4 h5 → ∃ b7 : Nat, r4 = some (.ref b7) ∧ q (some (.int 0)) h5))) : TT gc d 31 q 43 [.ref a0, .int x1, .int x2, .int x3, .int x4] [] h := Tf_fold H
theorem B31_25 {gc : Nat → Nat} {d : Nat} {q : PT} {h : AH} {a0 : Nat} {x1 : Int32} {x2 : Int32} {x3 : Int32}
    (H : ((∃ vs4 : List Value, at_ h a0 9 vs4) ∧ ∃ Q1 : PT, WP gc d 16 [.ref a0, .int x1, .int x2, .int x3] h Q1 ∧ ∀ (r2 : Option Value) (h3 : AH), Q1 r2 h3 → ∃ z5 : Int32, r2 = some (.int z5) ∧ ((¬ (z5 : Int32) = (((-1))) → TT gc d 31 q 43 [.ref a0, .int x1, .int x2, .int x3, .int z5] [] h3) ∧ ((z5 : Int32) = (((-1))) → q (some (.int ((-3)))) h3)))) : TT gc d 31 q 25 [.ref a0, .int x1, .int x2, .int x3, .retAddr 0] [] h := Tf_fold H
theorem B31_23 {gc : Nat → Nat} {d : Nat} {q : PT} {h : AH} {a0 : Nat} {x1 : Int32} {x2 : Int32} {x3 : Int32}
    (H : q (some (.int ((-1)))) h) : TT gc d 31 q 23 [.ref a0, .int x1, .int x2, .int x3, .retAddr 0] [] h := Tf_fold H
theorem M31 {gc : Nat → Nat} {d : Nat} {q : PT} {h : AH} {a0 : Nat} {x1 : Int32} {x2 : Int32} {x3 : Int32}
    (H : ((∃ vs4 : List Value, at_ h a0 9 vs4) ∧ ∃ Q1 : PT, WP gc d 11 [.ref a0, .int x1] h Q1 ∧ ∀ (r2 : Option Value) (h3 : AH), Q1 r2 h3 → ∃ z5 : Int32, r2 = some (.int z5) ∧ (((z5 : Int32) = 0 → TT gc d 31 q 23 [.ref a0, .int x1, .int x2, .int x3, .retAddr 0] [] h3) ∧ (¬ (z5 : Int32) = 0 → ((∃ vs9 : List Value, at_ h3 a0 9 vs9) ∧ ∃ Q6 : PT, WP gc d 12 [.ref a0, .int x2] h3 Q6 ∧ ∀ (r7 : Option Value) (h8 : AH), Q6 r7 h8 → ∃ z10 : Int32, r7 = some (.int z10) ∧ (((z10 : Int32) = 0 → TT gc d 31 q 23 [.ref a0, .int x1, .int x2, .int x3, .retAddr 0] [] h8) ∧ (¬ (z10 : Int32) = 0 → (∃ Q11 : PT, WP gc d 13 [.int x3] h8 Q11 ∧ ∀ (r12 : Option Value) (h13 : AH), Q11 r12 h13 → ∃ z14 : Int32, r12 = some (.int z14) ∧ ((¬ (z14 : Int32) = 0 → TT gc d 31 q 25 [.ref a0, .int x1, .int x2, .int x3, .retAddr 0] [] h13) ∧ ((z14 : Int32) = 0 → TT gc d 31 q 23 [.ref a0, .int x1, .int x2, .int x3, .retAddr 0] [] h13)))))))))) : WP gc (d + 1) 31 [.ref a0, .int x1, .int x2, .int x3] h q := ⟨q, fun _ _ z => z, Tf_fold H⟩
-- QueueBroker.drop(I)I
theorem B34_10 {gc : Nat → Nat} {d : Nat} {q : PT} {h : AH} {a0 : Nat} {x1 : Int32}
    (H : ((∃ vs4 : List Value, at_ h a0 9 vs4) ∧ ∃ Q1 : PT, WP gc d 35 [.ref a0, .int x1] h Q1 ∧ ∀ (r2 : Option Value) (h3 : AH), Q1 r2 h3 → ∃ z5 : Int32, r2 = some (.int z5) ∧ q (some (.int z5)) h3)) : TT gc d 34 q 10 [.ref a0, .int x1] [] h := Tf_fold H
theorem M34 {gc : Nat → Nat} {d : Nat} {q : PT} {h : AH} {a0 : Nat} {x1 : Int32}
    (H : ((∃ vs4 : List Value, at_ h a0 9 vs4) ∧ ∃ Q1 : PT, WP gc d 12 [.ref a0, .int x1] h Q1 ∧ ∀ (r2 : Option Value) (h3 : AH), Q1 r2 h3 → ∃ z5 : Int32, r2 = some (.int z5) ∧ ((¬ (z5 : Int32) = 0 → TT gc d 34 q 10 [.ref a0, .int x1] [] h3) ∧ ((z5 : Int32) = 0 → q (some (.int ((-1)))) h3)))) : WP gc (d + 1) 34 [.ref a0, .int x1] h q := ⟨q, fun _ _ z => z, Tf_fold H⟩
-- QueueBroker.forgetQueue(I)I
theorem B35_86 {gc : Nat → Nat} {d : Nat} {q : PT} {h : AH} {a0 : Nat} {x1 : Int32} {x2 : Int32} {x3 : Int32}
    (H : (∃ (vs1 : List Value) (b2 : Nat), at_ h a0 9 vs1 ∧ vs1[1]? = some (.ref b2) ∧ (∃ (t3 : Nat) (vs4 : List Value) (b5 : Nat), at_ h b2 t3 vs4 ∧ isRA t3 = true ∧ ¬ (x1 : Int32) < 0 ∧ vs4[(x1 : Int32).toNatClampNeg]? = some (.ref b5) ∧ ((∃ vs9 : List Value, at_ h b5 8 vs9) ∧ ∃ Q6 : PT, WP gc d 37 [.ref b5] h Q6 ∧ ∀ (r7 : Option Value) (h8 : AH), Q6 r7 h8 → r7 = none ∧ q (some (.int x2)) h8)))) : TT gc d 35 q 86 [.ref a0, .int x1, .int x2, .int x3] [] h := Tf_fold H
theorem B35_62 {gc : Nat → Nat} {d : Nat} {q : PT} {h : AH} {a0 : Nat} {x1 : Int32} {x2 : Int32} {x3 : Int32}
    (H : ((4 ≤ (x3 : Int32) → TT gc d 35 q 86 [.ref a0, .int x1, .int x2, .int x3] [] h) ∧ (¬ 4 ≤ (x3 : Int32) → (∃ (vs1 : List Value) (b2 : Nat), at_ h a0 9 vs1 ∧ vs1[2]? = some (.ref b2) ∧ (∃ (t3 : Nat) (vs4 : List Value) (b5 : Nat), at_ h b2 t3 vs4 ∧ isRA t3 = true ∧ ¬ (x3 : Int32) < 0 ∧ vs4[(x3 : Int32).toNatClampNeg]? = some (.ref b5) ∧ ((∃ vs9 : List Value, at_ h b5 2 vs9) ∧ ∃ Q6 : PT, WP gc d 36 [.ref b5, .int x1] h Q6 ∧ ∀ (r7 : Option Value) (h8 : AH), Q6 r7 h8 → ∃ z10 : Int32, r7 = some (.int z10) ∧ TT gc d 35 q 62 [.ref a0, .int x1, .int (x2 + z10), .int (x3 + 1)] [] h8)))))) : TT gc d 35 q 62 [.ref a0, .int x1, .int x2, .int x3] [] h := Tf_fold H
theorem B35_47 {gc : Nat → Nat} {d : Nat} {q : PT} {h : AH} {a0 : Nat} {x1 : Int32} {x2 : Int32}
    (H : (∃ (vs1 : List Value) (b2 : Nat), at_ h a0 9 vs1 ∧ vs1[1]? = some (.ref b2) ∧ (∃ (t3 : Nat) (vs4 : List Value) (b5 : Nat), at_ h b2 t3 vs4 ∧ isRA t3 = true ∧ ¬ (x1 : Int32) < 0 ∧ vs4[(x1 : Int32).toNatClampNeg]? = some (.ref b5) ∧ (∃ (vs6 : List Value) (b7 : Nat), at_ h b5 8 vs6 ∧ vs6[4]? = some (.ref b7) ∧ ((∃ vs11 : List Value, at_ h b7 10 vs11) ∧ ∃ Q8 : PT, WP gc d 17 [.ref b7] h Q8 ∧ ∀ (r9 : Option Value) (h10 : AH), Q8 r9 h10 → ∃ z12 : Int32, r9 = some (.int z12) ∧ TT gc d 35 q 62 [.ref a0, .int x1, .int z12, .int 0] [] h10))))) : TT gc d 35 q 47 [.ref a0, .int x1, .int x2, .retAddr 0] [] h := Tf_fold H
theorem B35_41 {gc : Nat → Nat} {d : Nat} {q : PT} {h : AH} {a0 : Nat} {x1 : Int32} {x2 : Int32}
    (H : TT gc d 35 q 10 [.ref a0, .int x1, .int (x2 + (-1)), .retAddr 0] [] h) : TT gc d 35 q 41 [.ref a0, .int x1, .int x2, .retAddr 0] [] h := Tf_fold H
theorem B35_10 {gc : Nat → Nat} {d : Nat} {q : PT} {h : AH} {a0 : Nat} {x1 : Int32} {x2 : Int32}
    (H : (((x2 : Int32) < 0 → TT gc d 35 q 47 [.ref a0, .int x1, .int x2, .retAddr 0] [] h) ∧ (¬ (x2 : Int32) < 0 → (∃ (vs1 : List Value) (b2 : Nat), at_ h a0 9 vs1 ∧ vs1[3]? = some (.ref b2) ∧ ((∃ vs6 : List Value, at_ h b2 10 vs6) ∧ ∃ Q3 : PT, WP gc d 18 [.ref b2, .int x2] h Q3 ∧ ∀ (r4 : Option Value) (h5 : AH), Q3 r4 h5 → ∃ b7 : Nat, r4 = some (.ref b7) ∧ (∃ vs8 : List Value, at_ h5 b7 1 vs8 ∧ (∃ (vs9 : List Value) (z10 : Int32), at_ h5 b7 1 vs9 ∧ vs9[1]? = some (.int z10) ∧ ((¬ (z10 : Int32) = x1 → TT gc d 35 q 41 [.ref a0, .int x1, .int x2, .retAddr 0] [] h5) ∧ ((z10 : Int32) = x1 → (∃ (vs11 : List Value) (b12 : Nat), at_ h5 a0 9 vs11 ∧ vs11[3]? = some (.ref b12) ∧ ((∃ vs16 : List Value, at_ h5 b12 10 vs16) ∧ ∃ Q13 : PT, WP gc d 32 [.ref b12, .int x2] h5 Q13 ∧ ∀ (r14 : Option Value) (h15 : AH), Q13 r14 h15 → ∃ b17 : Nat, r14 = some (.ref b17) ∧ TT gc d 35 q 41 [.ref a0, .int x1, .int x2, .retAddr 0] [] h15))))))))))) : TT gc d 35 q 10 [.ref a0, .int x1, .int x2, .retAddr 0] [] h := Tf_fold H
theorem M35 {gc : Nat → Nat} {d : Nat} {q : PT} {h : AH} {a0 : Nat} {x1 : Int32}
    (H : (∃ (vs1 : List Value) (b2 : Nat), at_ h a0 9 vs1 ∧ vs1[3]? = some (.ref b2) ∧ ((∃ vs6 : List Value, at_ h b2 10 vs6) ∧ ∃ Q3 : PT, WP gc d 17 [.ref b2] h Q3 ∧ ∀ (r4 : Option Value) (h5 : AH), Q3 r4 h5 → ∃ z7 : Int32, r4 = some (.int z7) ∧ TT gc d 35 q 10 [.ref a0, .int x1, .int (z7 - 1), .retAddr 0] [] h5))) : WP gc (d + 1) 35 [.ref a0, .int x1] h q := ⟨q, fun _ _ z => z, Tf_fold H⟩
-- QueueBroker$Channel.letGoOf(I)I
theorem B36_52 {gc : Nat → Nat} {d : Nat} {q : PT} {h : AH} {a0 : Nat} {x1 : Int32} {x2 : Int32} {x3 : Int32}
    (H : q (some (.int x2)) h) : TT gc d 36 q 52 [.ref a0, .int x1, .int x2, .int x3] [] h := Tf_fold H
theorem B36_46 {gc : Nat → Nat} {d : Nat} {q : PT} {h : AH} {a0 : Nat} {x1 : Int32} {x2 : Int32} {x3 : Int32}
    (H : TT gc d 36 q 12 [.ref a0, .int x1, .int x2, .int (x3 + (-1))] [] h) : TT gc d 36 q 46 [.ref a0, .int x1, .int x2, .int x3] [] h := Tf_fold H
theorem B36_12 {gc : Nat → Nat} {d : Nat} {q : PT} {h : AH} {a0 : Nat} {x1 : Int32} {x2 : Int32} {x3 : Int32}
    (H : (((x3 : Int32) < 0 → TT gc d 36 q 52 [.ref a0, .int x1, .int x2, .int x3] [] h) ∧ (¬ (x3 : Int32) < 0 → (∃ (vs1 : List Value) (b2 : Nat), at_ h a0 2 vs1 ∧ vs1[3]? = some (.ref b2) ∧ ((∃ vs6 : List Value, at_ h b2 10 vs6) ∧ ∃ Q3 : PT, WP gc d 18 [.ref b2, .int x3] h Q3 ∧ ∀ (r4 : Option Value) (h5 : AH), Q3 r4 h5 → ∃ b7 : Nat, r4 = some (.ref b7) ∧ (∃ vs8 : List Value, at_ h5 b7 4 vs8 ∧ (∃ (vs9 : List Value) (z10 : Int32), at_ h5 b7 4 vs9 ∧ vs9[1]? = some (.int z10) ∧ ((¬ (z10 : Int32) = x1 → TT gc d 36 q 46 [.ref a0, .int x1, .int x2, .int x3] [] h5) ∧ ((z10 : Int32) = x1 → (∃ (vs11 : List Value) (b12 : Nat), at_ h5 a0 2 vs11 ∧ vs11[3]? = some (.ref b12) ∧ ((∃ vs16 : List Value, at_ h5 b12 10 vs16) ∧ ∃ Q13 : PT, WP gc d 32 [.ref b12, .int x3] h5 Q13 ∧ ∀ (r14 : Option Value) (h15 : AH), Q13 r14 h15 → ∃ b17 : Nat, r14 = some (.ref b17) ∧ TT gc d 36 q 46 [.ref a0, .int x1, .int (x2 + 1), .int x3] [] h15))))))))))) : TT gc d 36 q 12 [.ref a0, .int x1, .int x2, .int x3] [] h := Tf_fold H
theorem M36 {gc : Nat → Nat} {d : Nat} {q : PT} {h : AH} {a0 : Nat} {x1 : Int32}
    (H : (∃ (vs1 : List Value) (b2 : Nat), at_ h a0 2 vs1 ∧ vs1[3]? = some (.ref b2) ∧ ((∃ vs6 : List Value, at_ h b2 10 vs6) ∧ ∃ Q3 : PT, WP gc d 17 [.ref b2] h Q3 ∧ ∀ (r4 : Option Value) (h5 : AH), Q3 r4 h5 → ∃ z7 : Int32, r4 = some (.int z7) ∧ TT gc d 36 q 12 [.ref a0, .int x1, .int 0, .int (z7 - 1)] [] h5))) : WP gc (d + 1) 36 [.ref a0, .int x1] h q := ⟨q, fun _ _ z => z, Tf_fold H⟩
-- QueueBroker$Queue.reset()V
theorem M37 {gc : Nat → Nat} {d : Nat} {q : PT} {h : AH} {a0 : Nat}
    (H : (∃ vs1 : List Value, at_ h a0 8 vs1 ∧ 0 < vs1.length ∧ ((0 : Int32) = 0 ∨ (0 : Int32) = 1) ∧ ∀ h2 : AH, h2 = ah_set h a0 (8, vs1.set 0 (.int 0)) → (∃ (vs3 : List Value) (b4 : Nat), at_ h2 a0 8 vs3 ∧ vs3[4]? = some (.ref b4) ∧ ((∃ vs8 : List Value, at_ h2 b4 10 vs8) ∧ ∃ Q5 : PT, WP gc d 38 [.ref b4] h2 Q5 ∧ ∀ (r6 : Option Value) (h7 : AH), Q5 r6 h7 → r6 = none ∧ (∃ (vs9 : List Value) (b10 : Nat), at_ h7 a0 8 vs9 ∧ vs9[5]? = some (.ref b10) ∧ ((∃ vs14 : List Value, at_ h7 b10 10 vs14) ∧ ∃ Q11 : PT, WP gc d 38 [.ref b10] h7 Q11 ∧ ∀ (r12 : Option Value) (h13 : AH), Q11 r12 h13 → r12 = none ∧ q none h13)))))) : WP gc (d + 1) 37 [.ref a0] h q := ⟨q, fun _ _ z => z, Tf_fold H⟩
-- QueueBroker.publish(IIIII)I
theorem B39_144 {gc : Nat → Nat} {d : Nat} {q : PT} {h : AH} {a0 : Nat} {x1 : Int32} {x2 : Int32} {x3 : Int32} {x4 : Int32} {x5 : Int32} {a6 : Nat} {a7 : Nat} {x8 : Int32}
    (H : ((∃ vs4 : List Value, at_ h a0 9 vs4) ∧ ∃ Q1 : PT, WP gc d 48 [.ref a0, .int x2, .ref a7] h Q1 ∧ ∀ (r2 : Option Value) (h3 : AH), Q1 r2 h3 → r2 = none ∧ ((∃ vs8 : List Value, at_ h3 a0 9 vs8) ∧ ∃ Q5 : PT, WP gc d 54 [.ref a0] h3 Q5 ∧ ∀ (r6 : Option Value) (h7 : AH), Q5 r6 h7 → r6 = none ∧ q (some (.int x8)) h7))) : TT gc d 39 q 144 [.ref a0, .int x1, .int x2, .int x3, .int x4, .int x5, .ref a6, .ref a7, .int x8] [] h := Tf_fold H
theorem B39_121 {gc : Nat → Nat} {d : Nat} {q : PT} {h : AH} {a0 : Nat} {x1 : Int32} {x2 : Int32} {x3 : Int32} {x4 : Int32} {x5 : Int32} {a6 : Nat} {a7 : Nat}
    (H : ((∃ vs4 : List Value, at_ h a0 9 vs4) ∧ ∃ Q1 : PT, WP gc d 44 [.ref a0, .int x2, .int x3] h Q1 ∧ ∀ (r2 : Option Value) (h3 : AH), Q1 r2 h3 → ∃ z5 : Int32, r2 = some (.int z5) ∧ ((¬ (z5 : Int32) = 0 → TT gc d 39 q 144 [.ref a0, .int x1, .int x2, .int x3, .int x4, .int x5, .ref a6, .ref a7, .int z5] [] h3) ∧ ((z5 : Int32) = 0 → ((((x5 &&& 2) : Int32) = 0 → TT gc d 39 q 144 [.ref a0, .int x1, .int x2, .int x3, .int x4, .int x5, .ref a6, .ref a7, .int z5] [] h3) ∧ (¬ ((x5 &&& 2) : Int32) = 0 → q (some (.int ((-4)))) h3)))))) : TT gc d 39 q 121 [.ref a0, .int x1, .int x2, .int x3, .int x4, .int x5, .ref a6, .ref a7, .retAddr 0] [] h := Tf_fold H
theorem B39_85 {gc : Nat → Nat} {d : Nat} {q : PT} {h : AH} {a0 : Nat} {x1 : Int32} {x2 : Int32} {x3 : Int32} {x4 : Int32} {x5 : Int32} {a6 : Nat} {sx0 : Int32} {sx1 : Int32} {sx2 : Int32} {sx3 : Int32} {sa4 : Nat} {sa5 : Nat}
    (H : (∃ Q1 : PT, WP gc d 42 [.ref sa4, .int sx3, .int sx2, .int sx1, .int sx0] h Q1 ∧ ∀ (r2 : Option Value) (h3 : AH), Q1 r2 h3 → r2 = none ∧ (∃ (vs4 : List Value) (z5 : Int32), at_ h3 a6 2 vs4 ∧ vs4[1]? = some (.int z5) ∧ (((z5 : Int32) = 0 → TT gc d 39 q 121 [.ref a0, .int x1, .int x2, .int x3, .int x4, .int x5, .ref a6, .ref sa5, .retAddr 0] [] h3) ∧ (¬ (z5 : Int32) = 0 → (∃ (vs6 : List Value) (b7 : Nat), at_ h3 a6 2 vs6 ∧ vs6[4]? = some (.ref b7) ∧ (1 ≤ h3.2.1 ∧ (dfl 5).length ≤ h3.2.2.1 ∧ ∀ (b8 : Nat) (h9 : AH), b8 = h3.1 → h9 = ah_new h3 (5, dfl 5) → (∃ Q10 : PT, WP gc d 43 [.ref b8, .int x2, .ref sa5, .int 0] h9 Q10 ∧ ∀ (r11 : Option Value) (h12 : AH), Q10 r11 h12 → r11 = none ∧ ((∃ vs16 : List Value, at_ h12 b7 10 vs16) ∧ ∃ Q13 : PT, WP gc d 23 [.ref b7, .ref b8] h12 Q13 ∧ ∀ (r14 : Option Value) (h15 : AH), Q13 r14 h15 → ∃ z17 : Int32, r14 = some (.int z17) ∧ q (some (.int 100)) h15))))))))) : TT gc d 39 q 85 [.ref a0, .int x1, .int x2, .int x3, .int x4, .int x5, .ref a6, .retAddr 0, .retAddr 0] [.int sx0, .int sx1, .int sx2, .int sx3, .ref sa4, .ref sa5] h := Tf_fold H
theorem B39_84 {gc : Nat → Nat} {d : Nat} {q : PT} {h : AH} {a0 : Nat} {x1 : Int32} {x2 : Int32} {x3 : Int32} {x4 : Int32} {x5 : Int32} {a6 : Nat} {sx0 : Int32} {sx1 : Int32} {sx2 : Int32} {sa3 : Nat} {sa4 : Nat}
    (H : TT gc d 39 q 85 [.ref a0, .int x1, .int x2, .int x3, .int x4, .int x5, .ref a6, .retAddr 0, .retAddr 0] [.int 0, .int sx0, .int sx1, .int sx2, .ref sa3, .ref sa4] h) : TT gc d 39 q 84 [.ref a0, .int x1, .int x2, .int x3, .int x4, .int x5, .ref a6, .retAddr 0, .retAddr 0] [.int sx0, .int sx1, .int sx2, .ref sa3, .ref sa4] h := Tf_fold H
theorem B39_65 {gc : Nat → Nat} {d : Nat} {q : PT} {h : AH} {a0 : Nat} {x1 : Int32} {x2 : Int32} {x3 : Int32} {x4 : Int32} {x5 : Int32} {a6 : Nat}
    (H : (1 ≤ h.2.1 ∧ (dfl 7).length ≤ h.2.2.1 ∧ ∀ (b1 : Nat) (h2 : AH), b1 = h.1 → h2 = ah_new h (7, dfl 7) → ((((x5 &&& 1) : Int32) = 0 → TT gc d 39 q 84 [.ref a0, .int x1, .int x2, .int x3, .int x4, .int x5, .ref a6, .retAddr 0, .retAddr 0] [.int 0, .int x3, .int x4, .ref b1, .ref b1] h2) ∧ (¬ ((x5 &&& 1) : Int32) = 0 → TT gc d 39 q 85 [.ref a0, .int x1, .int x2, .int x3, .int x4, .int x5, .ref a6, .retAddr 0, .retAddr 0] [.int 1, .int 0, .int x3, .int x4, .ref b1, .ref b1] h2)))) : TT gc d 39 q 65 [.ref a0, .int x1, .int x2, .int x3, .int x4, .int x5, .ref a6, .retAddr 0, .retAddr 0] [] h := Tf_fold H
theorem B39_34 {gc : Nat → Nat} {d : Nat} {q : PT} {h : AH} {a0 : Nat} {x1 : Int32} {x2 : Int32} {x3 : Int32} {x4 : Int32} {x5 : Int32}
    (H : (∃ (vs1 : List Value) (b2 : Nat), at_ h a0 9 vs1 ∧ vs1[2]? = some (.ref b2) ∧ (∃ (t3 : Nat) (vs4 : List Value) (b5 : Nat), at_ h b2 t3 vs4 ∧ isRA t3 = true ∧ ¬ (x1 : Int32) < 0 ∧ vs4[(x1 : Int32).toNatClampNeg]? = some (.ref b5) ∧ (∃ (vs6 : List Value) (z7 : Int32), at_ h b5 2 vs6 ∧ vs6[1]? = some (.int z7) ∧ (((z7 : Int32) = 0 → TT gc d 39 q 65 [.ref a0, .int x1, .int x2, .int x3, .int x4, .int x5, .ref b5, .retAddr 0, .retAddr 0] [] h) ∧ (¬ (z7 : Int32) = 0 → (∃ (vs8 : List Value) (b9 : Nat), at_ h b5 2 vs8 ∧ vs8[4]? = some (.ref b9) ∧ ((∃ vs13 : List Value, at_ h b9 10 vs13) ∧ ∃ Q10 : PT, WP gc d 17 [.ref b9] h Q10 ∧ ∀ (r11 : Option Value) (h12 : AH), Q10 r11 h12 → ∃ z14 : Int32, r11 = some (.int z14) ∧ (((z14 : Int32) < 4 → TT gc d 39 q 65 [.ref a0, .int x1, .int x2, .int x3, .int x4, .int x5, .ref b5, .retAddr 0, .retAddr 0] [] h12) ∧ (¬ (z14 : Int32) < 4 → q (some (.int ((-2)))) h12)))))))))) : TT gc d 39 q 34 [.ref a0, .int x1, .int x2, .int x3, .int x4, .int x5, .retAddr 0, .retAddr 0, .retAddr 0] [] h := Tf_fold H
theorem B39_32 {gc : Nat → Nat} {d : Nat} {q : PT} {h : AH} {a0 : Nat} {x1 : Int32} {x2 : Int32} {x3 : Int32} {x4 : Int32} {x5 : Int32}
    (H : q (some (.int ((-1)))) h) : TT gc d 39 q 32 [.ref a0, .int x1, .int x2, .int x3, .int x4, .int x5, .retAddr 0, .retAddr 0, .retAddr 0] [] h := Tf_fold H
theorem M39 {gc : Nat → Nat} {d : Nat} {q : PT} {h : AH} {a0 : Nat} {x1 : Int32} {x2 : Int32} {x3 : Int32} {x4 : Int32} {x5 : Int32}
    (H : (∃ Q1 : PT, WP gc d 40 [.int x1] h Q1 ∧ ∀ (r2 : Option Value) (h3 : AH), Q1 r2 h3 → ∃ z4 : Int32, r2 = some (.int z4) ∧ (((z4 : Int32) = 0 → TT gc d 39 q 32 [.ref a0, .int x1, .int x2, .int x3, .int x4, .int x5, .retAddr 0, .retAddr 0, .retAddr 0] [] h3) ∧ (¬ (z4 : Int32) = 0 → ((∃ vs8 : List Value, at_ h3 a0 9 vs8) ∧ ∃ Q5 : PT, WP gc d 11 [.ref a0, .int x2] h3 Q5 ∧ ∀ (r6 : Option Value) (h7 : AH), Q5 r6 h7 → ∃ z9 : Int32, r6 = some (.int z9) ∧ (((z9 : Int32) = 0 → TT gc d 39 q 32 [.ref a0, .int x1, .int x2, .int x3, .int x4, .int x5, .retAddr 0, .retAddr 0, .retAddr 0] [] h7) ∧ (¬ (z9 : Int32) = 0 → (∃ Q10 : PT, WP gc d 41 [.int x3] h7 Q10 ∧ ∀ (r11 : Option Value) (h12 : AH), Q10 r11 h12 → ∃ z13 : Int32, r11 = some (.int z13) ∧ (((z13 : Int32) = 0 → TT gc d 39 q 32 [.ref a0, .int x1, .int x2, .int x3, .int x4, .int x5, .retAddr 0, .retAddr 0, .retAddr 0] [] h12) ∧ (¬ (z13 : Int32) = 0 → (∃ Q14 : PT, WP gc d 8 [.int x5, .int 0, .int 3] h12 Q14 ∧ ∀ (r15 : Option Value) (h16 : AH), Q14 r15 h16 → ∃ z17 : Int32, r15 = some (.int z17) ∧ ((¬ (z17 : Int32) = 0 → TT gc d 39 q 34 [.ref a0, .int x1, .int x2, .int x3, .int x4, .int x5, .retAddr 0, .retAddr 0, .retAddr 0] [] h16) ∧ ((z17 : Int32) = 0 → TT gc d 39 q 32 [.ref a0, .int x1, .int x2, .int x3, .int x4, .int x5, .retAddr 0, .retAddr 0, .retAddr 0] [] h16))))))))))))) : WP gc (d + 1) 39 [.ref a0, .int x1, .int x2, .int x3, .int x4, .int x5] h q := ⟨q, fun _ _ z => z, Tf_fold H⟩
-- QueueBroker.isChannel(I)Z
theorem M40 {gc : Nat → Nat} {d : Nat} {q : PT} {h : AH} {x0 : Int32}
    (H : (∃ Q1 : PT, WP gc d 8 [.int x0, .int 0, .int 3] h Q1 ∧ ∀ (r2 : Option Value) (h3 : AH), Q1 r2 h3 → ∃ z4 : Int32, r2 = some (.int z4) ∧ (((z4 : Int32) = 0 ∨ (z4 : Int32) = 1) ∧ q (some (.int z4)) h3))) : WP gc (d + 1) 40 [.int x0] h q := ⟨q, fun _ _ z => z, Tf_fold H⟩
-- QueueBroker.isKey(I)Z
theorem B41_26 {gc : Nat → Nat} {d : Nat} {q : PT} {h : AH} {x0 : Int32} {x1 : Int32}
    (H : (∃ Q1 : PT, WP gc d 13 [.int x0] h Q1 ∧ ∀ (r2 : Option Value) (h3 : AH), Q1 r2 h3 → ∃ z4 : Int32, r2 = some (.int z4) ∧ (((z4 : Int32) = 0 ∨ (z4 : Int32) = 1) ∧ q (some (.int z4)) h3))) : TT gc d 41 q 26 [.int x0, .int x1] [] h := Tf_fold H
theorem B41_20 {gc : Nat → Nat} {d : Nat} {q : PT} {h : AH} {x0 : Int32} {x1 : Int32}
    (H : TT gc d 41 q 2 [.int x0, .int (x1 + 1)] [] h) : TT gc d 41 q 20 [.int x0, .int x1] [] h := Tf_fold H
theorem B41_2 {gc : Nat → Nat} {d : Nat} {q : PT} {h : AH} {x0 : Int32} {x1 : Int32}
    (H : ((8 ≤ (x1 : Int32) → TT gc d 41 q 26 [.int x0, .int x1] [] h) ∧ (¬ 8 ≤ (x1 : Int32) → (∃ Q1 : PT, WP gc d 15 [.int x0, .int x1] h Q1 ∧ ∀ (r2 : Option Value) (h3 : AH), Q1 r2 h3 → ∃ z4 : Int32, r2 = some (.int z4) ∧ (((z4 : Int32) < 14 → TT gc d 41 q 20 [.int x0, .int x1] [] h3) ∧ (¬ (z4 : Int32) < 14 → (((0 : Int32) = 0 ∨ (0 : Int32) = 1) ∧ q (some (.int 0)) h3))))))) : TT gc d 41 q 2 [.int x0, .int x1] [] h := Tf_fold H
theorem M41 {gc : Nat → Nat} {d : Nat} {q : PT} {h : AH} {x0 : Int32}
    (H : TT gc d 41 q 2 [.int x0, .int 0] [] h) : WP gc (d + 1) 41 [.int x0] h q := ⟨q, fun _ _ z => z, Tf_fold H⟩
-- QueueBroker$Message.<init>(IIIZ)V
theorem M42 {gc : Nat → Nat} {d : Nat} {q : PT} {h : AH} {a0 : Nat} {x1 : Int32} {x2 : Int32} {x3 : Int32} {x4 : Int32}
    (H : (∃ vs1 : List Value, at_ h a0 7 vs1 ∧ 0 < vs1.length ∧ True ∧ ∀ h2 : AH, h2 = ah_set h a0 (7, vs1.set 0 (.int x1)) → (∃ vs3 : List Value, at_ h2 a0 7 vs3 ∧ 1 < vs3.length ∧ True ∧ ∀ h4 : AH, h4 = ah_set h2 a0 (7, vs3.set 1 (.int x2)) → (∃ vs5 : List Value, at_ h4 a0 7 vs5 ∧ 2 < vs5.length ∧ True ∧ ∀ h6 : AH, h6 = ah_set h4 a0 (7, vs5.set 2 (.int x3)) → (∃ vs7 : List Value, at_ h6 a0 7 vs7 ∧ 3 < vs7.length ∧ ((x4 : Int32) = 0 ∨ (x4 : Int32) = 1) ∧ ∀ h8 : AH, h8 = ah_set h6 a0 (7, vs7.set 3 (.int x4)) → q none h8))))) : WP gc (d + 1) 42 [.ref a0, .int x1, .int x2, .int x3, .int x4] h q := ⟨q, fun _ _ z => z, Tf_fold H⟩
-- QueueBroker$Deed.<init>(ILQueueBroker$Message;I)V
theorem M43n {gc : Nat → Nat} {d : Nat} {q : PT} {h : AH} {a0 : Nat} {x1 : Int32} {x3 : Int32}
    (H : (∃ vs1 : List Value, at_ h a0 5 vs1 ∧ 0 < vs1.length ∧ True ∧ ∀ h2 : AH, h2 = ah_set h a0 (5, vs1.set 0 (.int x1)) → (∃ vs3 : List Value, at_ h2 a0 5 vs3 ∧ 1 < vs3.length ∧ True ∧ ∀ h4 : AH, h4 = ah_set h2 a0 (5, vs3.set 1 (.null)) → (∃ vs5 : List Value, at_ h4 a0 5 vs5 ∧ 2 < vs5.length ∧ True ∧ ∀ h6 : AH, h6 = ah_set h4 a0 (5, vs5.set 2 (.int x3)) → q none h6)))) : WP gc (d + 1) 43 [.ref a0, .int x1, .null, .int x3] h q := ⟨q, fun _ _ z => z, Tf_fold H⟩
-- QueueBroker$Deed.<init>(ILQueueBroker$Message;I)V
theorem M43 {gc : Nat → Nat} {d : Nat} {q : PT} {h : AH} {a0 : Nat} {x1 : Int32} {a2 : Nat} {x3 : Int32}
    (H : (∃ vs1 : List Value, at_ h a0 5 vs1 ∧ 0 < vs1.length ∧ True ∧ ∀ h2 : AH, h2 = ah_set h a0 (5, vs1.set 0 (.int x1)) → (∃ vs3 : List Value, at_ h2 a0 5 vs3 ∧ 1 < vs3.length ∧ True ∧ ∀ h4 : AH, h4 = ah_set h2 a0 (5, vs3.set 1 (.ref a2)) → (∃ vs5 : List Value, at_ h4 a0 5 vs5 ∧ 2 < vs5.length ∧ True ∧ ∀ h6 : AH, h6 = ah_set h4 a0 (5, vs5.set 2 (.int x3)) → q none h6)))) : WP gc (d + 1) 43 [.ref a0, .int x1, .ref a2, .int x3] h q := ⟨q, fun _ _ z => z, Tf_fold H⟩
-- QueueBroker.countChosen(II)I
theorem B44_32 {gc : Nat → Nat} {d : Nat} {q : PT} {h : AH} {a0 : Nat} {x1 : Int32} {x2 : Int32} {x3 : Int32} {x4 : Int32}
    (H : q (some (.int x3)) h) : TT gc d 44 q 32 [.ref a0, .int x1, .int x2, .int x3, .int x4] [] h := Tf_fold H
theorem B44_26 {gc : Nat → Nat} {d : Nat} {q : PT} {h : AH} {a0 : Nat} {x1 : Int32} {x2 : Int32} {x3 : Int32} {x4 : Int32}
    (H : TT gc d 44 q 5 [.ref a0, .int x1, .int x2, .int x3, .int (x4 + 1)] [] h) : TT gc d 44 q 26 [.ref a0, .int x1, .int x2, .int x3, .int x4] [] h := Tf_fold H
theorem B44_5 {gc : Nat → Nat} {d : Nat} {q : PT} {h : AH} {a0 : Nat} {x1 : Int32} {x2 : Int32} {x3 : Int32} {x4 : Int32}
    (H : ((6 ≤ (x4 : Int32) → TT gc d 44 q 32 [.ref a0, .int x1, .int x2, .int x3, .int x4] [] h) ∧ (¬ 6 ≤ (x4 : Int32) → ((∃ vs4 : List Value, at_ h a0 9 vs4) ∧ ∃ Q1 : PT, WP gc d 45 [.ref a0, .int x1, .int x4, .int x2] h Q1 ∧ ∀ (r2 : Option Value) (h3 : AH), Q1 r2 h3 → ∃ z5 : Int32, r2 = some (.int z5) ∧ (((z5 : Int32) = 0 → TT gc d 44 q 26 [.ref a0, .int x1, .int x2, .int x3, .int x4] [] h3) ∧ (¬ (z5 : Int32) = 0 → TT gc d 44 q 26 [.ref a0, .int x1, .int x2, .int (x3 + 1), .int x4] [] h3)))))) : TT gc d 44 q 5 [.ref a0, .int x1, .int x2, .int x3, .int x4] [] h := Tf_fold H
theorem M44 {gc : Nat → Nat} {d : Nat} {q : PT} {h : AH} {a0 : Nat} {x1 : Int32} {x2 : Int32}
    (H : TT gc d 44 q 5 [.ref a0, .int x1, .int x2, .int 0, .int 0] [] h) : WP gc (d + 1) 44 [.ref a0, .int x1, .int x2] h q := ⟨q, fun _ _ z => z, Tf_fold H⟩
-- QueueBroker.isChosen(III)Z
theorem B45_99 {gc : Nat → Nat} {d : Nat} {q : PT} {h : AH} {a0 : Nat} {x1 : Int32} {x2 : Int32} {x3 : Int32} {x4 : Int32} {x5 : Int32} {v6 : Value}
    (H : (((0 : Int32) = 0 ∨ (0 : Int32) = 1) ∧ q (some (.int 0)) h)) : TT gc d 45 q 99 [.ref a0, .int x1, .int x2, .int x3, .int x4, .int x5, v6] [] h := Tf_fold H
theorem B45_93 {gc : Nat → Nat} {d : Nat} {q : PT} {h : AH} {a0 : Nat} {x1 : Int32} {x2 : Int32} {x3 : Int32} {x4 : Int32} {x5 : Int32} {a6 : Nat}
    (H : TT gc d 45 q 14 [.ref a0, .int x1, .int x2, .int x3, .int x4, .int (x5 + 1), .ref a6] [] h) : TT gc d 45 q 93 [.ref a0, .int x1, .int x2, .int x3, .int x4, .int x5, .ref a6] [] h := Tf_fold H
theorem B45_91 {gc : Nat → Nat} {d : Nat} {q : PT} {h : AH} {a0 : Nat} {x1 : Int32} {x2 : Int32} {x3 : Int32} {x4 : Int32} {x5 : Int32} {a6 : Nat}
    (H : (((1 : Int32) = 0 ∨ (1 : Int32) = 1) ∧ q (some (.int 1)) h)) : TT gc d 45 q 91 [.ref a0, .int x1, .int x2, .int x3, .int x4, .int x5, .ref a6] [] h := Tf_fold H
theorem B45_14 {gc : Nat → Nat} {d : Nat} {q : PT} {h : AH} {a0 : Nat} {x1 : Int32} {x2 : Int32} {x3 : Int32} {x4 : Int32} {x5 : Int32} {v6 : Value}
    (H : (∃ (vs1 : List Value) (b2 : Nat), at_ h a0 9 vs1 ∧ vs1[3]? = some (.ref b2) ∧ ((∃ vs6 : List Value, at_ h b2 10 vs6) ∧ ∃ Q3 : PT, WP gc d 17 [.ref b2] h Q3 ∧ ∀ (r4 : Option Value) (h5 : AH), Q3 r4 h5 → ∃ z7 : Int32, r4 = some (.int z7) ∧ ((z7 ≤ (x5 : Int32) → TT gc d 45 q 99 [.ref a0, .int x1, .int x2, .int x3, .int x4, .int x5, v6] [] h5) ∧ (¬ z7 ≤ (x5 : Int32) → (∃ (vs8 : List Value) (b9 : Nat), at_ h5 a0 9 vs8 ∧ vs8[3]? = some (.ref b9) ∧ ((∃ vs13 : List Value, at_ h5 b9 10 vs13) ∧ ∃ Q10 : PT, WP gc d 18 [.ref b9, .int x5] h5 Q10 ∧ ∀ (r11 : Option Value) (h12 : AH), Q10 r11 h12 → ∃ b14 : Nat, r11 = some (.ref b14) ∧ (∃ vs15 : List Value, at_ h12 b14 1 vs15 ∧ (∃ (vs16 : List Value) (z17 : Int32), at_ h12 b14 1 vs16 ∧ vs16[0]? = some (.int z17) ∧ ((¬ (z17 : Int32) = x1 → TT gc d 45 q 93 [.ref a0, .int x1, .int x2, .int x3, .int x4, .int x5, .ref b14] [] h12) ∧ ((z17 : Int32) = x1 → (∃ (vs18 : List Value) (z19 : Int32), at_ h12 b14 1 vs18 ∧ vs18[1]? = some (.int z19) ∧ ((¬ (z19 : Int32) = x2 → TT gc d 45 q 93 [.ref a0, .int x1, .int x2, .int x3, .int x4, .int x5, .ref b14] [] h12) ∧ ((z19 : Int32) = x2 → (((x4 : Int32) = 1 → TT gc d 45 q 91 [.ref a0, .int x1, .int x2, .int x3, .int x4, .int x5, .ref b14] [] h12) ∧ (¬ (x4 : Int32) = 1 → (∃ (vs20 : List Value) (z21 : Int32), at_ h12 b14 1 vs20 ∧ vs20[2]? = some (.int z21) ∧ (((z21 : Int32) = x3 → TT gc d 45 q 91 [.ref a0, .int x1, .int x2, .int x3, .int x4, .int x5, .ref b14] [] h12) ∧ (¬ (z21 : Int32) = x3 → ((¬ (x4 : Int32) = 2 → TT gc d 45 q 93 [.ref a0, .int x1, .int x2, .int x3, .int x4, .int x5, .ref b14] [] h12) ∧ ((x4 : Int32) = 2 → (∃ (vs22 : List Value) (z23 : Int32), at_ h12 b14 1 vs22 ∧ vs22[2]? = some (.int z23) ∧ (∃ Q24 : PT, WP gc d 46 [.int z23, .int x3] h12 Q24 ∧ ∀ (r25 : Option Value) (h26 : AH), Q24 r25 h26 → ∃ z27 : Int32, r25 = some (.int z27) ∧ (((z27 : Int32) = 0 → TT gc d 45 q 93 [.ref a0, .int x1, .int x2, .int x3, .int x4, .int x5, .ref b14] [] h26) ∧ (¬ (z27 : Int32) = 0 → TT gc d 45 q 91 [.ref a0, .int x1, .int x2, .int x3, .int x4, .int x5, .ref b14] [] h26))))))))))))))))))))))))) : TT gc d 45 q 14 [.ref a0, .int x1, .int x2, .int x3, .int x4, .int x5, v6] [] h := Tf_fold H
theorem M45 {gc : Nat → Nat} {d : Nat} {q : PT} {h : AH} {a0 : Nat} {x1 : Int32} {x2 : Int32} {x3 : Int32}
    (H : (∃ (vs1 : List Value) (b2 : Nat), at_ h a0 9 vs1 ∧ vs1[0]? = some (.ref b2) ∧ (∃ (t3 : Nat) (vs4 : List Value) (b5 : Nat), at_ h b2 t3 vs4 ∧ isRA t3 = true ∧ ¬ (x1 : Int32) < 0 ∧ vs4[(x1 : Int32).toNatClampNeg]? = some (.ref b5) ∧ (∃ (vs6 : List Value) (z7 : Int32), at_ h b5 6 vs6 ∧ vs6[1]? = some (.int z7) ∧ TT gc d 45 q 14 [.ref a0, .int x1, .int x2, .int x3, .int z7, .int 0, .retAddr 0] [] h)))) : WP gc (d + 1) 45 [.ref a0, .int x1, .int x2, .int x3] h q := ⟨q, fun _ _ z => z, Tf_fold H⟩
-- QueueBroker.isMatch(II)Z
theorem B46_68 {gc : Nat → Nat} {d : Nat} {q : PT} {h : AH} {x0 : Int32} {x1 : Int32} {x2 : Int32} {x3 : Int32} {x4 : Int32} {x5 : Int32} {x6 : Int32} {sx0 : Int32}
    (H : (((sx0 : Int32) = 0 ∨ (sx0 : Int32) = 1) ∧ q (some (.int sx0)) h)) : TT gc d 46 q 68 [.int x0, .int x1, .int x2, .int x3, .int x4, .int x5, .int x6] [.int sx0] h := Tf_fold H
theorem B46_67 {gc : Nat → Nat} {d : Nat} {q : PT} {h : AH} {x0 : Int32} {x1 : Int32} {x2 : Int32} {x3 : Int32} {x4 : Int32} {x5 : Int32} {x6 : Int32}
    (H : TT gc d 46 q 68 [.int x0, .int x1, .int x2, .int x3, .int x4, .int x5, .int x6] [.int 0] h) : TT gc d 46 q 67 [.int x0, .int x1, .int x2, .int x3, .int x4, .int x5, .int x6] [] h := Tf_fold H
theorem B46_54 {gc : Nat → Nat} {d : Nat} {q : PT} {h : AH} {x0 : Int32} {x1 : Int32} {x2 : Int32} {x3 : Int32} {x4 : Int32} {x5 : Int32} {x6 : Int32}
    (H : ((((((x5 >>> (x3 &&& 31))) &&& 1) : Int32) = 0 → TT gc d 46 q 67 [.int x0, .int x1, .int x2, .int x3, .int x4, .int x5, .int x6] [] h) ∧ (¬ ((((x5 >>> (x3 &&& 31))) &&& 1) : Int32) = 0 → TT gc d 46 q 68 [.int x0, .int x1, .int x2, .int x3, .int x4, .int x5, .int x6] [.int 1] h))) : TT gc d 46 q 54 [.int x0, .int x1, .int x2, .int x3, .int x4, .int x5, .int x6] [] h := Tf_fold H
theorem B46_25 {gc : Nat → Nat} {d : Nat} {q : PT} {h : AH} {x0 : Int32} {x1 : Int32} {x2 : Int32} {x3 : Int32} {x4 : Int32} {x5 : Int32} {x6 : Int32}
    (H : ((x2 ≤ (x6 : Int32) → TT gc d 46 q 54 [.int x0, .int x1, .int x2, .int x3, .int x4, .int x5, .int x6] [] h) ∧ (¬ x2 ≤ (x6 : Int32) → (∃ Q1 : PT, WP gc d 15 [.int x0, .int x6] h Q1 ∧ ∀ (r2 : Option Value) (h3 : AH), Q1 r2 h3 → ∃ z4 : Int32, r2 = some (.int z4) ∧ (∃ Q5 : PT, WP gc d 47 [.int x5, .int z4, .int x1] h3 Q5 ∧ ∀ (r6 : Option Value) (h7 : AH), Q5 r6 h7 → ∃ z8 : Int32, r6 = some (.int z8) ∧ TT gc d 46 q 25 [.int x0, .int x1, .int x2, .int x3, .int x4, .int (x4 &&& z8), .int (x6 + 1)] [] h7))))) : TT gc d 46 q 25 [.int x0, .int x1, .int x2, .int x3, .int x4, .int x5, .int x6] [] h := Tf_fold H
theorem M46 {gc : Nat → Nat} {d : Nat} {q : PT} {h : AH} {x0 : Int32} {x1 : Int32}
    (H : (∃ Q1 : PT, WP gc d 14 [.int x0] h Q1 ∧ ∀ (r2 : Option Value) (h3 : AH), Q1 r2 h3 → ∃ z4 : Int32, r2 = some (.int z4) ∧ (∃ Q5 : PT, WP gc d 14 [.int x1] h3 Q5 ∧ ∀ (r6 : Option Value) (h7 : AH), Q5 r6 h7 → ∃ z8 : Int32, r6 = some (.int z8) ∧ TT gc d 46 q 25 [.int x0, .int x1, .int z4, .int z8, .int (((1 <<< (((z8 + 1)) &&& 31))) - 1), .int 1, .int 0] [] h7))) : WP gc (d + 1) 46 [.int x0, .int x1] h q := ⟨q, fun _ _ z => z, Tf_fold H⟩
-- QueueBroker.reachFurther(III)I
theorem B47_70 {gc : Nat → Nat} {d : Nat} {q : PT} {h : AH} {x0 : Int32} {x1 : Int32} {x2 : Int32} {x3 : Int32} {x4 : Int32}
    (H : q (some (.int x3)) h) : TT gc d 47 q 70 [.int x0, .int x1, .int x2, .int x3, .int x4] [] h := Tf_fold H
theorem B47_64 {gc : Nat → Nat} {d : Nat} {q : PT} {h : AH} {x0 : Int32} {x1 : Int32} {x2 : Int32} {x3 : Int32} {x4 : Int32}
    (H : TT gc d 47 q 29 [.int x0, .int x1, .int x2, .int x3, .int (x4 + 1)] [] h) : TT gc d 47 q 64 [.int x0, .int x1, .int x2, .int x3, .int x4] [] h := Tf_fold H
theorem B47_29 {gc : Nat → Nat} {d : Nat} {q : PT} {h : AH} {x0 : Int32} {x1 : Int32} {x2 : Int32} {x3 : Int32} {x4 : Int32}
    (H : ((8 ≤ (x4 : Int32) → TT gc d 47 q 70 [.int x0, .int x1, .int x2, .int x3, .int x4] [] h) ∧ (¬ 8 ≤ (x4 : Int32) → ((((((x0 >>> (x4 &&& 31))) &&& 1) : Int32) = 0 → TT gc d 47 q 64 [.int x0, .int x1, .int x2, .int x3, .int x4] [] h) ∧ (¬ ((((x0 >>> (x4 &&& 31))) &&& 1) : Int32) = 0 → (∃ Q1 : PT, WP gc d 15 [.int x2, .int x4] h Q1 ∧ ∀ (r2 : Option Value) (h3 : AH), Q1 r2 h3 → ∃ z4 : Int32, r2 = some (.int z4) ∧ ((¬ (z4 : Int32) = x1 → TT gc d 47 q 64 [.int x0, .int x1, .int x2, .int x3, .int x4] [] h3) ∧ ((z4 : Int32) = x1 → TT gc d 47 q 64 [.int x0, .int x1, .int x2, .int (x3 ||| ((1 <<< (((x4 + 1)) &&& 31)))), .int x4] [] h3)))))))) : TT gc d 47 q 29 [.int x0, .int x1, .int x2, .int x3, .int x4] [] h := Tf_fold H
theorem B47_24 {gc : Nat → Nat} {d : Nat} {q : PT} {h : AH} {x0 : Int32} {x1 : Int32} {x2 : Int32}
    (H : TT gc d 47 q 29 [.int x0, .int x1, .int x2, .int 0, .int 0] [] h) : TT gc d 47 q 24 [.int x0, .int x1, .int x2, .retAddr 0, .retAddr 0] [] h := Tf_fold H
theorem B47_10 {gc : Nat → Nat} {d : Nat} {q : PT} {h : AH} {x0 : Int32} {x1 : Int32} {x2 : Int32}
    (H : ((¬ (x1 : Int32) = 15 → TT gc d 47 q 24 [.int x0, .int x1, .int x2, .retAddr 0, .retAddr 0] [] h) ∧ ((x1 : Int32) = 15 → q (some (.int (-((x0 &&& ((-x0))))))) h))) : TT gc d 47 q 10 [.int x0, .int x1, .int x2, .retAddr 0, .retAddr 0] [] h := Tf_fold H
theorem M47 {gc : Nat → Nat} {d : Nat} {q : PT} {h : AH} {x0 : Int32} {x1 : Int32} {x2 : Int32}
    (H : ((¬ (x1 : Int32) = 14 → TT gc d 47 q 10 [.int x0, .int x1, .int x2, .retAddr 0, .retAddr 0] [] h) ∧ ((x1 : Int32) = 14 → q (some (.int (x0 <<< (1 &&& 31)))) h))) : WP gc (d + 1) 47 [.int x0, .int x1, .int x2] h q := ⟨q, fun _ _ z => z, Tf_fold H⟩
-- QueueBroker.route(ILQueueBroker$Message;)V
theorem B48_33 {gc : Nat → Nat} {d : Nat} {q : PT} {h : AH} {a0 : Nat} {x1 : Int32} {a2 : Nat} {x3 : Int32}
    (H : q none h) : TT gc d 48 q 33 [.ref a0, .int x1, .ref a2, .int x3] [] h := Tf_fold H
theorem B48_27 {gc : Nat → Nat} {d : Nat} {q : PT} {h : AH} {a0 : Nat} {x1 : Int32} {a2 : Nat} {x3 : Int32}
    (H : TT gc d 48 q 2 [.ref a0, .int x1, .ref a2, .int (x3 + 1)] [] h) : TT gc d 48 q 27 [.ref a0, .int x1, .ref a2, .int x3] [] h := Tf_fold H
theorem B48_2 {gc : Nat → Nat} {d : Nat} {q : PT} {h : AH} {a0 : Nat} {x1 : Int32} {a2 : Nat} {x3 : Int32}
    (H : ((6 ≤ (x3 : Int32) → TT gc d 48 q 33 [.ref a0, .int x1, .ref a2, .int x3] [] h) ∧ (¬ 6 ≤ (x3 : Int32) → (∃ (vs1 : List Value) (z2 : Int32), at_ h a2 7 vs1 ∧ vs1[1]? = some (.int z2) ∧ ((∃ vs6 : List Value, at_ h a0 9 vs6) ∧ ∃ Q3 : PT, WP gc d 45 [.ref a0, .int x1, .int x3, .int z2] h Q3 ∧ ∀ (r4 : Option Value) (h5 : AH), Q3 r4 h5 → ∃ z7 : Int32, r4 = some (.int z7) ∧ (((z7 : Int32) = 0 → TT gc d 48 q 27 [.ref a0, .int x1, .ref a2, .int x3] [] h5) ∧ (¬ (z7 : Int32) = 0 → ((∃ vs11 : List Value, at_ h5 a0 9 vs11) ∧ ∃ Q8 : PT, WP gc d 49 [.ref a0, .int x3, .ref a2] h5 Q8 ∧ ∀ (r9 : Option Value) (h10 : AH), Q8 r9 h10 → r9 = none ∧ TT gc d 48 q 27 [.ref a0, .int x1, .ref a2, .int x3] [] h10)))))))) : TT gc d 48 q 2 [.ref a0, .int x1, .ref a2, .int x3] [] h := Tf_fold H
theorem M48 {gc : Nat → Nat} {d : Nat} {q : PT} {h : AH} {a0 : Nat} {x1 : Int32} {a2 : Nat}
    (H : TT gc d 48 q 2 [.ref a0, .int x1, .ref a2, .int 0] [] h) : WP gc (d + 1) 48 [.ref a0, .int x1, .ref a2] h q := ⟨q, fun _ _ z => z, Tf_fold H⟩
-- QueueBroker.put(ILQueueBroker$Message;)V
theorem B49_78 {gc : Nat → Nat} {d : Nat} {q : PT} {h : AH} {a0 : Nat} {x1 : Int32} {a2 : Nat} {a3 : Nat} {x4 : Int32}
    (H : q none h) : TT gc d 49 q 78 [.ref a0, .int x1, .ref a2, .ref a3, .int x4] [] h := Tf_fold H
theorem B49_48 {gc : Nat → Nat} {d : Nat} {q : PT} {h : AH} {a0 : Nat} {x1 : Int32} {a2 : Nat} {a3 : Nat} {x4 : Int32}
    (H : (((x4 : Int32) ≤ 0 → TT gc d 49 q 78 [.ref a0, .int x1, .ref a2, .ref a3, .int x4] [] h) ∧ (¬ (x4 : Int32) ≤ 0 → (∃ (vs1 : List Value) (b2 : Nat), at_ h a0 9 vs1 ∧ vs1[4]? = some (.ref b2) ∧ (∃ (vs3 : List Value) (b4 : Nat), at_ h a3 8 vs3 ∧ vs3[4]? = some (.ref b4) ∧ ((∃ vs8 : List Value, at_ h b4 10 vs8) ∧ ∃ Q5 : PT, WP gc d 32 [.ref b4, .int 0] h Q5 ∧ ∀ (r6 : Option Value) (h7 : AH), Q5 r6 h7 → ∃ b9 : Nat, r6 = some (.ref b9) ∧ (∃ vs10 : List Value, at_ h7 b9 4 vs10 ∧ ((∃ vs14 : List Value, at_ h7 b2 10 vs14) ∧ ∃ Q11 : PT, WP gc d 23 [.ref b2, .ref b9] h7 Q11 ∧ ∀ (r12 : Option Value) (h13 : AH), Q11 r12 h13 → ∃ z15 : Int32, r12 = some (.int z15) ∧ TT gc d 49 q 48 [.ref a0, .int x1, .ref a2, .ref a3, .int (x4 + (-1))] [] h13)))))))) : TT gc d 49 q 48 [.ref a0, .int x1, .ref a2, .ref a3, .int x4] [] h := Tf_fold H
theorem M49 {gc : Nat → Nat} {d : Nat} {q : PT} {h : AH} {a0 : Nat} {x1 : Int32} {a2 : Nat}
    (H : (∃ (vs1 : List Value) (b2 : Nat), at_ h a0 9 vs1 ∧ vs1[1]? = some (.ref b2) ∧ (∃ (t3 : Nat) (vs4 : List Value) (b5 : Nat), at_ h b2 t3 vs4 ∧ isRA t3 = true ∧ ¬ (x1 : Int32) < 0 ∧ vs4[(x1 : Int32).toNatClampNeg]? = some (.ref b5) ∧ (∃ (vs6 : List Value) (z7 : Int32), at_ h a0 9 vs6 ∧ vs6[5]? = some (.int z7) ∧ (∃ vs8 : List Value, at_ h a0 9 vs8 ∧ 5 < vs8.length ∧ True ∧ ∀ h9 : AH, h9 = ah_set h a0 (9, vs8.set 5 (.int (z7 + 1))) → (1 ≤ h9.2.1 ∧ (dfl 4).length ≤ h9.2.2.1 ∧ ∀ (b10 : Nat) (h11 : AH), b10 = h9.1 → h11 = ah_new h9 (4, dfl 4) → (∃ (vs12 : List Value) (z13 : Int32), at_ h11 a0 9 vs12 ∧ vs12[5]? = some (.int z13) ∧ (∃ Q14 : PT, WP gc d 50 [.ref b10, .ref a2, .int x1, .int z13] h11 Q14 ∧ ∀ (r15 : Option Value) (h16 : AH), Q14 r15 h16 → r15 = none ∧ ((∃ vs20 : List Value, at_ h16 b5 8 vs20) ∧ ∃ Q17 : PT, WP gc d 51 [.ref b5, .ref b10] h16 Q17 ∧ ∀ (r18 : Option Value) (h19 : AH), Q17 r18 h19 → r18 = none ∧ (∃ (vs21 : List Value) (b22 : Nat), at_ h19 b5 8 vs21 ∧ vs21[4]? = some (.ref b22) ∧ ((∃ vs26 : List Value, at_ h19 b22 10 vs26) ∧ ∃ Q23 : PT, WP gc d 17 [.ref b22] h19 Q23 ∧ ∀ (r24 : Option Value) (h25 : AH), Q23 r24 h25 → ∃ z27 : Int32, r24 = some (.int z27) ∧ (∃ (vs28 : List Value) (z29 : Int32), at_ h25 b5 8 vs28 ∧ vs28[1]? = some (.int z29) ∧ TT gc d 49 q 48 [.ref a0, .int x1, .ref a2, .ref b5, .int (z27 - z29)] [] h25)))))))))))) : WP gc (d + 1) 49 [.ref a0, .int x1, .ref a2] h q := ⟨q, fun _ _ z => z, Tf_fold H⟩
-- QueueBroker$Copy.<init>(LQueueBroker$Message;II)V
theorem M50 {gc : Nat → Nat} {d : Nat} {q : PT} {h : AH} {a0 : Nat} {a1 : Nat} {x2 : Int32} {x3 : Int32}
    (H : (∃ vs1 : List Value, at_ h a0 4 vs1 ∧ 3 < vs1.length ∧ ((0 : Int32) = 0 ∨ (0 : Int32) = 1) ∧ ∀ h2 : AH, h2 = ah_set h a0 (4, vs1.set 3 (.int 0)) → (∃ vs3 : List Value, at_ h2 a0 4 vs3 ∧ 4 < vs3.length ∧ True ∧ ∀ h4 : AH, h4 = ah_set h2 a0 (4, vs3.set 4 (.int 0)) → (∃ vs5 : List Value, at_ h4 a0 4 vs5 ∧ 5 < vs5.length ∧ True ∧ ∀ h6 : AH, h6 = ah_set h4 a0 (4, vs5.set 5 (.int ((-1)))) → (∃ vs7 : List Value, at_ h6 a0 4 vs7 ∧ 0 < vs7.length ∧ True ∧ ∀ h8 : AH, h8 = ah_set h6 a0 (4, vs7.set 0 (.ref a1)) → (∃ vs9 : List Value, at_ h8 a0 4 vs9 ∧ 1 < vs9.length ∧ True ∧ ∀ h10 : AH, h10 = ah_set h8 a0 (4, vs9.set 1 (.int x2)) → (∃ vs11 : List Value, at_ h10 a0 4 vs11 ∧ 2 < vs11.length ∧ True ∧ ∀ h12 : AH, h12 = ah_set h10 a0 (4, vs11.set 2 (.int x3)) → q none h12))))))) : WP gc (d + 1) 50 [.ref a0, .ref a1, .int x2, .int x3] h q := ⟨q, fun _ _ z => z, Tf_fold H⟩
-- QueueBroker$Queue.insert(LQueueBroker$Copy;)V
theorem B51_41 {gc : Nat → Nat} {d : Nat} {q : PT} {h : AH} {a0 : Nat} {a1 : Nat} {x2 : Int32}
    (H : (∃ (vs1 : List Value) (b2 : Nat), at_ h a0 8 vs1 ∧ vs1[4]? = some (.ref b2) ∧ ((∃ vs6 : List Value, at_ h b2 10 vs6) ∧ ∃ Q3 : PT, WP gc d 52 [.ref b2, .int x2, .ref a1] h Q3 ∧ ∀ (r4 : Option Value) (h5 : AH), Q3 r4 h5 → r4 = none ∧ q none h5))) : TT gc d 51 q 41 [.ref a0, .ref a1, .int x2] [] h := Tf_fold H
theorem B51_8 {gc : Nat → Nat} {d : Nat} {q : PT} {h : AH} {a0 : Nat} {a1 : Nat} {x2 : Int32}
    (H : (((x2 : Int32) ≤ 0 → TT gc d 51 q 41 [.ref a0, .ref a1, .int x2] [] h) ∧ (¬ (x2 : Int32) ≤ 0 → (∃ (vs1 : List Value) (b2 : Nat), at_ h a0 8 vs1 ∧ vs1[4]? = some (.ref b2) ∧ ((∃ vs6 : List Value, at_ h b2 10 vs6) ∧ ∃ Q3 : PT, WP gc d 18 [.ref b2, .int (x2 - 1)] h Q3 ∧ ∀ (r4 : Option Value) (h5 : AH), Q3 r4 h5 → ∃ b7 : Nat, r4 = some (.ref b7) ∧ (∃ vs8 : List Value, at_ h5 b7 4 vs8 ∧ (∃ (vs9 : List Value) (z10 : Int32), at_ h5 b7 4 vs9 ∧ vs9[2]? = some (.int z10) ∧ (∃ (vs11 : List Value) (z12 : Int32), at_ h5 a1 4 vs11 ∧ vs11[2]? = some (.int z12) ∧ (((z10 : Int32) ≤ z12 → TT gc d 51 q 41 [.ref a0, .ref a1, .int x2] [] h5) ∧ (¬ (z10 : Int32) ≤ z12 → TT gc d 51 q 8 [.ref a0, .ref a1, .int (x2 + (-1))] [] h5)))))))))) : TT gc d 51 q 8 [.ref a0, .ref a1, .int x2] [] h := Tf_fold H
theorem M51 {gc : Nat → Nat} {d : Nat} {q : PT} {h : AH} {a0 : Nat} {a1 : Nat}
    (H : (∃ (vs1 : List Value) (b2 : Nat), at_ h a0 8 vs1 ∧ vs1[4]? = some (.ref b2) ∧ ((∃ vs6 : List Value, at_ h b2 10 vs6) ∧ ∃ Q3 : PT, WP gc d 17 [.ref b2] h Q3 ∧ ∀ (r4 : Option Value) (h5 : AH), Q3 r4 h5 → ∃ z7 : Int32, r4 = some (.int z7) ∧ TT gc d 51 q 8 [.ref a0, .ref a1, .int z7] [] h5))) : WP gc (d + 1) 51 [.ref a0, .ref a1] h q := ⟨q, fun _ _ z => z, Tf_fold H⟩
-- QueueBroker.routeLetters()V
theorem B54_92 {gc : Nat → Nat} {d : Nat} {q : PT} {h : AH} {a0 : Nat} {x1 : Int32} {x2 : Int32} {v3 : Value}
    (H : (∃ (vs1 : List Value) (z2 : Int32), at_ h a0 9 vs1 ∧ vs1[6]? = some (.int z2) ∧ (∃ vs3 : List Value, at_ h a0 9 vs3 ∧ 6 < vs3.length ∧ True ∧ ∀ h4 : AH, h4 = ah_set h a0 (9, vs3.set 6 (.int (z2 + x1))) → (∃ (vs5 : List Value) (b6 : Nat), at_ h4 a0 9 vs5 ∧ vs5[4]? = some (.ref b6) ∧ ((∃ vs10 : List Value, at_ h4 b6 10 vs10) ∧ ∃ Q7 : PT, WP gc d 38 [.ref b6] h4 Q7 ∧ ∀ (r8 : Option Value) (h9 : AH), Q7 r8 h9 → r8 = none ∧ q none h9))))) : TT gc d 54 q 92 [.ref a0, .int x1, .int x2, v3] [] h := Tf_fold H
theorem B54_86 {gc : Nat → Nat} {d : Nat} {q : PT} {h : AH} {a0 : Nat} {x1 : Int32} {x2 : Int32} {a3 : Nat}
    (H : TT gc d 54 q 4 [.ref a0, .int x1, .int (x2 + 1), .ref a3] [] h) : TT gc d 54 q 86 [.ref a0, .int x1, .int x2, .ref a3] [] h := Tf_fold H
theorem B54_76 {gc : Nat → Nat} {d : Nat} {q : PT} {h : AH} {a0 : Nat} {x1 : Int32} {x2 : Int32} {a3 : Nat}
    (H : (∃ (vs1 : List Value) (z2 : Int32), at_ h a0 9 vs1 ∧ vs1[7]? = some (.int z2) ∧ (∃ vs3 : List Value, at_ h a0 9 vs3 ∧ 7 < vs3.length ∧ True ∧ ∀ h4 : AH, h4 = ah_set h a0 (9, vs3.set 7 (.int (z2 + 1))) → TT gc d 54 q 86 [.ref a0, .int x1, .int x2, .ref a3] [] h4))) : TT gc d 54 q 76 [.ref a0, .int x1, .int x2, .ref a3] [] h := Tf_fold H
theorem B54_4 {gc : Nat → Nat} {d : Nat} {q : PT} {h : AH} {a0 : Nat} {x1 : Int32} {x2 : Int32} {v3 : Value}
    (H : (∃ (vs1 : List Value) (b2 : Nat), at_ h a0 9 vs1 ∧ vs1[4]? = some (.ref b2) ∧ ((∃ vs6 : List Value, at_ h b2 10 vs6) ∧ ∃ Q3 : PT, WP gc d 17 [.ref b2] h Q3 ∧ ∀ (r4 : Option Value) (h5 : AH), Q3 r4 h5 → ∃ z7 : Int32, r4 = some (.int z7) ∧ ((z7 ≤ (x2 : Int32) → TT gc d 54 q 92 [.ref a0, .int x1, .int x2, v3] [] h5) ∧ (¬ z7 ≤ (x2 : Int32) → ((((Int32.ofNat 1000000)) ≤ (x2 : Int32) → TT gc d 54 q 92 [.ref a0, .int x1, .int x2, v3] [] h5) ∧ (¬ ((Int32.ofNat 1000000)) ≤ (x2 : Int32) → (∃ (vs8 : List Value) (b9 : Nat), at_ h5 a0 9 vs8 ∧ vs8[4]? = some (.ref b9) ∧ ((∃ vs13 : List Value, at_ h5 b9 10 vs13) ∧ ∃ Q10 : PT, WP gc d 18 [.ref b9, .int x2] h5 Q10 ∧ ∀ (r11 : Option Value) (h12 : AH), Q10 r11 h12 → ∃ b14 : Nat, r11 = some (.ref b14) ∧ (∃ vs15 : List Value, at_ h12 b14 4 vs15 ∧ ((3 ≤ (x1 : Int32) → TT gc d 54 q 76 [.ref a0, .int x1, .int x2, .ref b14] [] h12) ∧ (¬ 3 ≤ (x1 : Int32) → ((∃ vs19 : List Value, at_ h12 a0 9 vs19) ∧ ∃ Q16 : PT, WP gc d 55 [.ref a0, .ref b14] h12 Q16 ∧ ∀ (r17 : Option Value) (h18 : AH), Q16 r17 h18 → ∃ z20 : Int32, r17 = some (.int z20) ∧ (((z20 : Int32) = 0 → TT gc d 54 q 76 [.ref a0, .int x1, .int x2, .ref b14] [] h18) ∧ (¬ (z20 : Int32) = 0 → (∃ (vs21 : List Value) (b22 : Nat), at_ h18 a0 9 vs21 ∧ vs21[1]? = some (.ref b22) ∧ (∃ (vs23 : List Value) (z24 : Int32), at_ h18 b14 4 vs23 ∧ vs23[1]? = some (.int z24) ∧ (∃ (t25 : Nat) (vs26 : List Value) (b27 : Nat), at_ h18 b22 t25 vs26 ∧ isRA t25 = true ∧ ¬ (z24 : Int32) < 0 ∧ vs26[(z24 : Int32).toNatClampNeg]? = some (.ref b27) ∧ (∃ (vs28 : List Value) (z29 : Int32), at_ h18 b27 8 vs28 ∧ vs28[2]? = some (.int z29) ∧ (∃ (vs30 : List Value) (b31 : Nat), at_ h18 b14 4 vs30 ∧ vs30[0]? = some (.ref b31) ∧ ((∃ vs35 : List Value, at_ h18 b31 7 vs35) ∧ ∃ Q32 : PT, WP gc d 56 [.ref b31] h18 Q32 ∧ ∀ (r33 : Option Value) (h34 : AH), Q32 r33 h34 → ∃ b36 : Nat, r33 = some (.ref b36) ∧ ((∃ vs40 : List Value, at_ h34 a0 9 vs40) ∧ ∃ Q37 : PT, WP gc d 48 [.ref a0, .int z29, .ref b36] h34 Q37 ∧ ∀ (r38 : Option Value) (h39 : AH), Q37 r38 h39 → r38 = none ∧ TT gc d 54 q 86 [.ref a0, .int (x1 + 1), .int x2, .ref b14] [] h39)))))))))))))))))))))) : TT gc d 54 q 4 [.ref a0, .int x1, .int x2, v3] [] h := Tf_fold H
theorem M54 {gc : Nat → Nat} {d : Nat} {q : PT} {h : AH} {a0 : Nat}
    (H : TT gc d 54 q 4 [.ref a0, .int 0, .int 0, .retAddr 0] [] h) : WP gc (d + 1) 54 [.ref a0] h q := ⟨q, fun _ _ z => z, Tf_fold H⟩
-- QueueBroker.canGoOn(LQueueBroker$Copy;)Z
theorem B55_35 {gc : Nat → Nat} {d : Nat} {q : PT} {h : AH} {a0 : Nat} {a1 : Nat} {sx0 : Int32}
    (H : (((sx0 : Int32) = 0 ∨ (sx0 : Int32) = 1) ∧ q (some (.int sx0)) h)) : TT gc d 55 q 35 [.ref a0, .ref a1] [.int sx0] h := Tf_fold H
theorem B55_34 {gc : Nat → Nat} {d : Nat} {q : PT} {h : AH} {a0 : Nat} {a1 : Nat}
    (H : TT gc d 55 q 35 [.ref a0, .ref a1] [.int 0] h) : TT gc d 55 q 34 [.ref a0, .ref a1] [] h := Tf_fold H
theorem M55 {gc : Nat → Nat} {d : Nat} {q : PT} {h : AH} {a0 : Nat} {a1 : Nat}
    (H : (∃ (vs1 : List Value) (b2 : Nat), at_ h a0 9 vs1 ∧ vs1[1]? = some (.ref b2) ∧ (∃ (vs3 : List Value) (z4 : Int32), at_ h a1 4 vs3 ∧ vs3[1]? = some (.int z4) ∧ (∃ (t5 : Nat) (vs6 : List Value) (b7 : Nat), at_ h b2 t5 vs6 ∧ isRA t5 = true ∧ ¬ (z4 : Int32) < 0 ∧ vs6[(z4 : Int32).toNatClampNeg]? = some (.ref b7) ∧ (∃ (vs8 : List Value) (z9 : Int32), at_ h b7 8 vs8 ∧ vs8[2]? = some (.int z9) ∧ ((∃ vs13 : List Value, at_ h a0 9 vs13) ∧ ∃ Q10 : PT, WP gc d 11 [.ref a0, .int z9] h Q10 ∧ ∀ (r11 : Option Value) (h12 : AH), Q10 r11 h12 → ∃ z14 : Int32, r11 = some (.int z14) ∧ (((z14 : Int32) = 0 → TT gc d 55 q 34 [.ref a0, .ref a1] [] h12) ∧ (¬ (z14 : Int32) = 0 → (∃ (vs15 : List Value) (b16 : Nat), at_ h12 a1 4 vs15 ∧ vs15[0]? = some (.ref b16) ∧ (∃ (vs17 : List Value) (z18 : Int32), at_ h12 b16 7 vs17 ∧ vs17[2]? = some (.int z18) ∧ ((3 ≤ (z18 : Int32) → TT gc d 55 q 34 [.ref a0, .ref a1] [] h12) ∧ (¬ 3 ≤ (z18 : Int32) → TT gc d 55 q 35 [.ref a0, .ref a1] [.int 1] h12)))))))))))) : WP gc (d + 1) 55 [.ref a0, .ref a1] h q := ⟨q, fun _ _ z => z, Tf_fold H⟩
-- QueueBroker$Message.withOneHopMore()LQueueBroker$Message;
theorem M56 {gc : Nat → Nat} {d : Nat} {q : PT} {h : AH} {a0 : Nat}
    (H : (1 ≤ h.2.1 ∧ (dfl 7).length ≤ h.2.2.1 ∧ ∀ (b1 : Nat) (h2 : AH), b1 = h.1 → h2 = ah_new h (7, dfl 7) → (∃ (vs3 : List Value) (z4 : Int32), at_ h2 a0 7 vs3 ∧ vs3[0]? = some (.int z4) ∧ (∃ (vs5 : List Value) (z6 : Int32), at_ h2 a0 7 vs5 ∧ vs5[1]? = some (.int z6) ∧ (∃ (vs7 : List Value) (z8 : Int32), at_ h2 a0 7 vs7 ∧ vs7[2]? = some (.int z8) ∧ (∃ (vs9 : List Value) (z10 : Int32), at_ h2 a0 7 vs9 ∧ vs9[3]? = some (.int z10) ∧ (∃ Q11 : PT, WP gc d 42 [.ref b1, .int z4, .int z6, .int (z8 + 1), .int z10] h2 Q11 ∧ ∀ (r12 : Option Value) (h13 : AH), Q11 r12 h13 → r12 = none ∧ q (some (.ref b1)) h13))))))) : WP gc (d + 1) 56 [.ref a0] h q := ⟨q, fun _ _ z => z, Tf_fold H⟩
-- QueueBroker.consume(IIZ)I
theorem B57_34 {gc : Nat → Nat} {d : Nat} {q : PT} {h : AH} {a0 : Nat} {x1 : Int32} {x2 : Int32} {x3 : Int32}
    (H : (∃ (vs1 : List Value) (b2 : Nat), at_ h a0 9 vs1 ∧ vs1[1]? = some (.ref b2) ∧ (∃ (t3 : Nat) (vs4 : List Value) (b5 : Nat), at_ h b2 t3 vs4 ∧ isRA t3 = true ∧ ¬ (x2 : Int32) < 0 ∧ vs4[(x2 : Int32).toNatClampNeg]? = some (.ref b5) ∧ (∃ (vs6 : List Value) (b7 : Nat), at_ h b5 8 vs6 ∧ vs6[5]? = some (.ref b7) ∧ (1 ≤ h.2.1 ∧ (dfl 3).length ≤ h.2.2.1 ∧ ∀ (b8 : Nat) (h9 : AH), b8 = h.1 → h9 = ah_new h (3, dfl 3) → (∃ Q10 : PT, WP gc d 59 [.ref b8, .int x1, .int x3] h9 Q10 ∧ ∀ (r11 : Option Value) (h12 : AH), Q10 r11 h12 → r11 = none ∧ ((∃ vs16 : List Value, at_ h12 b7 10 vs16) ∧ ∃ Q13 : PT, WP gc d 23 [.ref b7, .ref b8] h12 Q13 ∧ ∀ (r14 : Option Value) (h15 : AH), Q13 r14 h15 → ∃ z17 : Int32, r14 = some (.int z17) ∧ q (some (.int 0)) h15))))))) : TT gc d 57 q 34 [.ref a0, .int x1, .int x2, .int x3] [] h := Tf_fold H
theorem B57_17 {gc : Nat → Nat} {d : Nat} {q : PT} {h : AH} {a0 : Nat} {x1 : Int32} {x2 : Int32} {x3 : Int32}
    (H : (∃ (vs1 : List Value) (b2 : Nat), at_ h a0 9 vs1 ∧ vs1[1]? = some (.ref b2) ∧ (∃ (t3 : Nat) (vs4 : List Value) (b5 : Nat), at_ h b2 t3 vs4 ∧ isRA t3 = true ∧ ¬ (x2 : Int32) < 0 ∧ vs4[(x2 : Int32).toNatClampNeg]? = some (.ref b5) ∧ ((∃ vs9 : List Value, at_ h b5 8 vs9) ∧ ∃ Q6 : PT, WP gc d 58 [.ref b5, .int x1] h Q6 ∧ ∀ (r7 : Option Value) (h8 : AH), Q6 r7 h8 → ∃ z10 : Int32, r7 = some (.int z10) ∧ (((z10 : Int32) = (((-1))) → TT gc d 57 q 34 [.ref a0, .int x1, .int x2, .int x3] [] h8) ∧ (¬ (z10 : Int32) = (((-1))) → q (some (.int ((-3)))) h8)))))) : TT gc d 57 q 17 [.ref a0, .int x1, .int x2, .int x3] [] h := Tf_fold H
theorem B57_15 {gc : Nat → Nat} {d : Nat} {q : PT} {h : AH} {a0 : Nat} {x1 : Int32} {x2 : Int32} {x3 : Int32}
    (H : q (some (.int ((-1)))) h) : TT gc d 57 q 15 [.ref a0, .int x1, .int x2, .int x3] [] h := Tf_fold H
theorem M57 {gc : Nat → Nat} {d : Nat} {q : PT} {h : AH} {a0 : Nat} {x1 : Int32} {x2 : Int32} {x3 : Int32}
    (H : (∃ Q1 : PT, WP gc d 40 [.int x1] h Q1 ∧ ∀ (r2 : Option Value) (h3 : AH), Q1 r2 h3 → ∃ z4 : Int32, r2 = some (.int z4) ∧ (((z4 : Int32) = 0 → TT gc d 57 q 15 [.ref a0, .int x1, .int x2, .int x3] [] h3) ∧ (¬ (z4 : Int32) = 0 → ((∃ vs8 : List Value, at_ h3 a0 9 vs8) ∧ ∃ Q5 : PT, WP gc d 12 [.ref a0, .int x2] h3 Q5 ∧ ∀ (r6 : Option Value) (h7 : AH), Q5 r6 h7 → ∃ z9 : Int32, r6 = some (.int z9) ∧ ((¬ (z9 : Int32) = 0 → TT gc d 57 q 17 [.ref a0, .int x1, .int x2, .int x3] [] h7) ∧ ((z9 : Int32) = 0 → TT gc d 57 q 15 [.ref a0, .int x1, .int x2, .int x3] [] h7))))))) : WP gc (d + 1) 57 [.ref a0, .int x1, .int x2, .int x3] h q := ⟨q, fun _ _ z => z, Tf_fold H⟩
-- QueueBroker$Queue.findConsumer(I)I
theorem B58_39 {gc : Nat → Nat} {d : Nat} {q : PT} {h : AH} {a0 : Nat} {x1 : Int32} {x2 : Int32}
    (H : q (some (.int ((-1)))) h) : TT gc d 58 q 39 [.ref a0, .int x1, .int x2] [] h := Tf_fold H
theorem B58_33 {gc : Nat → Nat} {d : Nat} {q : PT} {h : AH} {a0 : Nat} {x1 : Int32} {x2 : Int32}
    (H : TT gc d 58 q 2 [.ref a0, .int x1, .int (x2 + 1)] [] h) : TT gc d 58 q 33 [.ref a0, .int x1, .int x2] [] h := Tf_fold H
theorem B58_2 {gc : Nat → Nat} {d : Nat} {q : PT} {h : AH} {a0 : Nat} {x1 : Int32} {x2 : Int32}
    (H : (∃ (vs1 : List Value) (b2 : Nat), at_ h a0 8 vs1 ∧ vs1[5]? = some (.ref b2) ∧ ((∃ vs6 : List Value, at_ h b2 10 vs6) ∧ ∃ Q3 : PT, WP gc d 17 [.ref b2] h Q3 ∧ ∀ (r4 : Option Value) (h5 : AH), Q3 r4 h5 → ∃ z7 : Int32, r4 = some (.int z7) ∧ ((z7 ≤ (x2 : Int32) → TT gc d 58 q 39 [.ref a0, .int x1, .int x2] [] h5) ∧ (¬ z7 ≤ (x2 : Int32) → (∃ (vs8 : List Value) (b9 : Nat), at_ h5 a0 8 vs8 ∧ vs8[5]? = some (.ref b9) ∧ ((∃ vs13 : List Value, at_ h5 b9 10 vs13) ∧ ∃ Q10 : PT, WP gc d 18 [.ref b9, .int x2] h5 Q10 ∧ ∀ (r11 : Option Value) (h12 : AH), Q10 r11 h12 → ∃ b14 : Nat, r11 = some (.ref b14) ∧ (∃ vs15 : List Value, at_ h12 b14 3 vs15 ∧ (∃ (vs16 : List Value) (z17 : Int32), at_ h12 b14 3 vs16 ∧ vs16[0]? = some (.int z17) ∧ ((¬ (z17 : Int32) = x1 → TT gc d 58 q 33 [.ref a0, .int x1, .int x2] [] h12) ∧ ((z17 : Int32) = x1 → q (some (.int x2)) h12))))))))))) : TT gc d 58 q 2 [.ref a0, .int x1, .int x2] [] h := Tf_fold H
theorem M58 {gc : Nat → Nat} {d : Nat} {q : PT} {h : AH} {a0 : Nat} {x1 : Int32}
    (H : TT gc d 58 q 2 [.ref a0, .int x1, .int 0] [] h) : WP gc (d + 1) 58 [.ref a0, .int x1] h q := ⟨q, fun _ _ z => z, Tf_fold H⟩
-- QueueBroker$Consumer.<init>(IZ)V
theorem M59 {gc : Nat → Nat} {d : Nat} {q : PT} {h : AH} {a0 : Nat} {x1 : Int32} {x2 : Int32}
    (H : (∃ vs1 : List Value, at_ h a0 3 vs1 ∧ 0 < vs1.length ∧ True ∧ ∀ h2 : AH, h2 = ah_set h a0 (3, vs1.set 0 (.int x1)) → (∃ vs3 : List Value, at_ h2 a0 3 vs3 ∧ 1 < vs3.length ∧ ((x2 : Int32) = 0 ∨ (x2 : Int32) = 1) ∧ ∀ h4 : AH, h4 = ah_set h2 a0 (3, vs3.set 1 (.int x2)) → q none h4))) : WP gc (d + 1) 59 [.ref a0, .int x1, .int x2] h q := ⟨q, fun _ _ z => z, Tf_fold H⟩
-- QueueBroker.cancel(II)I
theorem B60_36 {gc : Nat → Nat} {d : Nat} {q : PT} {h : AH} {a0 : Nat} {x1 : Int32} {x2 : Int32} {sx0 : Int32}
    (H : q (some (.int sx0)) h) : TT gc d 60 q 36 [.ref a0, .int x1, .int x2] [.int sx0] h := Tf_fold H
theorem B60_34 {gc : Nat → Nat} {d : Nat} {q : PT} {h : AH} {a0 : Nat} {x1 : Int32} {x2 : Int32}
    (H : TT gc d 60 q 36 [.ref a0, .int x1, .int x2] [.int ((-3))] h) : TT gc d 60 q 34 [.ref a0, .int x1, .int x2] [] h := Tf_fold H
theorem B60_17 {gc : Nat → Nat} {d : Nat} {q : PT} {h : AH} {a0 : Nat} {x1 : Int32} {x2 : Int32}
    (H : (∃ (vs1 : List Value) (b2 : Nat), at_ h a0 9 vs1 ∧ vs1[1]? = some (.ref b2) ∧ (∃ (t3 : Nat) (vs4 : List Value) (b5 : Nat), at_ h b2 t3 vs4 ∧ isRA t3 = true ∧ ¬ (x2 : Int32) < 0 ∧ vs4[(x2 : Int32).toNatClampNeg]? = some (.ref b5) ∧ ((∃ vs9 : List Value, at_ h b5 8 vs9) ∧ ∃ Q6 : PT, WP gc d 61 [.ref b5, .int x1] h Q6 ∧ ∀ (r7 : Option Value) (h8 : AH), Q6 r7 h8 → ∃ z10 : Int32, r7 = some (.int z10) ∧ (((z10 : Int32) = 0 → TT gc d 60 q 34 [.ref a0, .int x1, .int x2] [] h8) ∧ (¬ (z10 : Int32) = 0 → TT gc d 60 q 36 [.ref a0, .int x1, .int x2] [.int 0] h8)))))) : TT gc d 60 q 17 [.ref a0, .int x1, .int x2] [] h := Tf_fold H
theorem B60_15 {gc : Nat → Nat} {d : Nat} {q : PT} {h : AH} {a0 : Nat} {x1 : Int32} {x2 : Int32}
    (H : q (some (.int ((-1)))) h) : TT gc d 60 q 15 [.ref a0, .int x1, .int x2] [] h := Tf_fold H
theorem M60 {gc : Nat → Nat} {d : Nat} {q : PT} {h : AH} {a0 : Nat} {x1 : Int32} {x2 : Int32}
    (H : (∃ Q1 : PT, WP gc d 40 [.int x1] h Q1 ∧ ∀ (r2 : Option Value) (h3 : AH), Q1 r2 h3 → ∃ z4 : Int32, r2 = some (.int z4) ∧ (((z4 : Int32) = 0 → TT gc d 60 q 15 [.ref a0, .int x1, .int x2] [] h3) ∧ (¬ (z4 : Int32) = 0 → ((∃ vs8 : List Value, at_ h3 a0 9 vs8) ∧ ∃ Q5 : PT, WP gc d 12 [.ref a0, .int x2] h3 Q5 ∧ ∀ (r6 : Option Value) (h7 : AH), Q5 r6 h7 → ∃ z9 : Int32, r6 = some (.int z9) ∧ ((¬ (z9 : Int32) = 0 → TT gc d 60 q 17 [.ref a0, .int x1, .int x2] [] h7) ∧ ((z9 : Int32) = 0 → TT gc d 60 q 15 [.ref a0, .int x1, .int x2] [] h7))))))) : WP gc (d + 1) 60 [.ref a0, .int x1, .int x2] h q := ⟨q, fun _ _ z => z, Tf_fold H⟩
-- QueueBroker$Queue.removeConsumer(I)Z
theorem B61_13 {gc : Nat → Nat} {d : Nat} {q : PT} {h : AH} {a0 : Nat} {x1 : Int32} {x2 : Int32}
    (H : (∃ (vs1 : List Value) (b2 : Nat), at_ h a0 8 vs1 ∧ vs1[5]? = some (.ref b2) ∧ ((∃ vs6 : List Value, at_ h b2 10 vs6) ∧ ∃ Q3 : PT, WP gc d 32 [.ref b2, .int x2] h Q3 ∧ ∀ (r4 : Option Value) (h5 : AH), Q3 r4 h5 → ∃ b7 : Nat, r4 = some (.ref b7) ∧ (((1 : Int32) = 0 ∨ (1 : Int32) = 1) ∧ q (some (.int 1)) h5)))) : TT gc d 61 q 13 [.ref a0, .int x1, .int x2] [] h := Tf_fold H
theorem M61 {gc : Nat → Nat} {d : Nat} {q : PT} {h : AH} {a0 : Nat} {x1 : Int32}
    (H : ((∃ vs4 : List Value, at_ h a0 8 vs4) ∧ ∃ Q1 : PT, WP gc d 58 [.ref a0, .int x1] h Q1 ∧ ∀ (r2 : Option Value) (h3 : AH), Q1 r2 h3 → ∃ z5 : Int32, r2 = some (.int z5) ∧ ((¬ (z5 : Int32) = (((-1))) → TT gc d 61 q 13 [.ref a0, .int x1, .int z5] [] h3) ∧ ((z5 : Int32) = (((-1))) → (((0 : Int32) = 0 ∨ (0 : Int32) = 1) ∧ q (some (.int 0)) h3))))) : WP gc (d + 1) 61 [.ref a0, .int x1] h q := ⟨q, fun _ _ z => z, Tf_fold H⟩
-- QueueBroker.deliver(I)I
theorem B62_103 {gc : Nat → Nat} {d : Nat} {q : PT} {h : AH} {a0 : Nat} {x1 : Int32} {a2 : Nat} {x3 : Int32} {a4 : Nat} {a5 : Nat}
    (H : (∃ (vs1 : List Value) (z2 : Int32), at_ h a4 3 vs1 ∧ vs1[0]? = some (.int z2) ∧ q (some (.int z2)) h)) : TT gc d 62 q 103 [.ref a0, .int x1, .ref a2, .int x3, .ref a4, .ref a5] [] h := Tf_fold H
theorem B62_44 {gc : Nat → Nat} {d : Nat} {q : PT} {h : AH} {a0 : Nat} {x1 : Int32} {a2 : Nat} {x3 : Int32}
    (H : (∃ (vs1 : List Value) (b2 : Nat), at_ h a2 8 vs1 ∧ vs1[5]? = some (.ref b2) ∧ ((∃ vs6 : List Value, at_ h b2 10 vs6) ∧ ∃ Q3 : PT, WP gc d 32 [.ref b2, .int x3] h Q3 ∧ ∀ (r4 : Option Value) (h5 : AH), Q3 r4 h5 → ∃ b7 : Nat, r4 = some (.ref b7) ∧ (∃ vs8 : List Value, at_ h5 b7 3 vs8 ∧ (∃ (vs9 : List Value) (b10 : Nat), at_ h5 a2 8 vs9 ∧ vs9[5]? = some (.ref b10) ∧ ((∃ vs14 : List Value, at_ h5 b10 10 vs14) ∧ ∃ Q11 : PT, WP gc d 23 [.ref b10, .ref b7] h5 Q11 ∧ ∀ (r12 : Option Value) (h13 : AH), Q11 r12 h13 → ∃ z15 : Int32, r12 = some (.int z15) ∧ (∃ (vs16 : List Value) (b17 : Nat), at_ h13 a2 8 vs16 ∧ vs16[4]? = some (.ref b17) ∧ ((∃ vs21 : List Value, at_ h13 b17 10 vs21) ∧ ∃ Q18 : PT, WP gc d 32 [.ref b17, .int 0] h13 Q18 ∧ ∀ (r19 : Option Value) (h20 : AH), Q18 r19 h20 → ∃ b22 : Nat, r19 = some (.ref b22) ∧ (∃ vs23 : List Value, at_ h20 b22 4 vs23 ∧ (∃ (vs24 : List Value) (z25 : Int32), at_ h20 b7 3 vs24 ∧ vs24[1]? = some (.int z25) ∧ ((¬ (z25 : Int32) = 0 → TT gc d 62 q 103 [.ref a0, .int x1, .ref a2, .int x3, .ref b7, .ref b22] [] h20) ∧ ((z25 : Int32) = 0 → (∃ (vs26 : List Value) (b27 : Nat), at_ h20 a0 9 vs26 ∧ vs26[2]? = some (.ref b27) ∧ (∃ (vs28 : List Value) (z29 : Int32), at_ h20 b7 3 vs28 ∧ vs28[0]? = some (.int z29) ∧ (∃ (t30 : Nat) (vs31 : List Value) (b32 : Nat), at_ h20 b27 t30 vs31 ∧ isRA t30 = true ∧ ¬ (z29 : Int32) < 0 ∧ vs31[(z29 : Int32).toNatClampNeg]? = some (.ref b32) ∧ ((∃ vs36 : List Value, at_ h20 b32 2 vs36) ∧ ∃ Q33 : PT, WP gc d 65 [.ref b32, .ref b22] h20 Q33 ∧ ∀ (r34 : Option Value) (h35 : AH), Q33 r34 h35 → r34 = none ∧ TT gc d 62 q 103 [.ref a0, .int x1, .ref a2, .int x3, .ref b7, .ref b22] [] h35)))))))))))))))) : TT gc d 62 q 44 [.ref a0, .int x1, .ref a2, .int x3, .retAddr 0, .retAddr 0] [] h := Tf_fold H
theorem B62_30 {gc : Nat → Nat} {d : Nat} {q : PT} {h : AH} {a0 : Nat} {x1 : Int32} {a2 : Nat}
    (H : ((∃ vs4 : List Value, at_ h a0 9 vs4) ∧ ∃ Q1 : PT, WP gc d 64 [.ref a0, .ref a2] h Q1 ∧ ∀ (r2 : Option Value) (h3 : AH), Q1 r2 h3 → ∃ z5 : Int32, r2 = some (.int z5) ∧ ((¬ (z5 : Int32) = (((-1))) → TT gc d 62 q 44 [.ref a0, .int x1, .ref a2, .int z5, .retAddr 0, .retAddr 0] [] h3) ∧ ((z5 : Int32) = (((-1))) → q (some (.int ((-6)))) h3)))) : TT gc d 62 q 30 [.ref a0, .int x1, .ref a2, .retAddr 0, .retAddr 0, .retAddr 0] [] h := Tf_fold H
theorem B62_10 {gc : Nat → Nat} {d : Nat} {q : PT} {h : AH} {a0 : Nat} {x1 : Int32}
    (H : (∃ (vs1 : List Value) (b2 : Nat), at_ h a0 9 vs1 ∧ vs1[1]? = some (.ref b2) ∧ (∃ (t3 : Nat) (vs4 : List Value) (b5 : Nat), at_ h b2 t3 vs4 ∧ isRA t3 = true ∧ ¬ (x1 : Int32) < 0 ∧ vs4[(x1 : Int32).toNatClampNeg]? = some (.ref b5) ∧ (∃ (vs6 : List Value) (b7 : Nat), at_ h b5 8 vs6 ∧ vs6[4]? = some (.ref b7) ∧ ((∃ vs11 : List Value, at_ h b7 10 vs11) ∧ ∃ Q8 : PT, WP gc d 63 [.ref b7] h Q8 ∧ ∀ (r9 : Option Value) (h10 : AH), Q8 r9 h10 → ∃ z12 : Int32, r9 = some (.int z12) ∧ (((z12 : Int32) = 0 → TT gc d 62 q 30 [.ref a0, .int x1, .ref b5, .retAddr 0, .retAddr 0, .retAddr 0] [] h10) ∧ (¬ (z12 : Int32) = 0 → q (some (.int ((-5)))) h10))))))) : TT gc d 62 q 10 [.ref a0, .int x1, .retAddr 0, .retAddr 0, .retAddr 0, .retAddr 0] [] h := Tf_fold H
theorem M62 {gc : Nat → Nat} {d : Nat} {q : PT} {h : AH} {a0 : Nat} {x1 : Int32}
    (H : ((∃ vs4 : List Value, at_ h a0 9 vs4) ∧ ∃ Q1 : PT, WP gc d 12 [.ref a0, .int x1] h Q1 ∧ ∀ (r2 : Option Value) (h3 : AH), Q1 r2 h3 → ∃ z5 : Int32, r2 = some (.int z5) ∧ ((¬ (z5 : Int32) = 0 → TT gc d 62 q 10 [.ref a0, .int x1, .retAddr 0, .retAddr 0, .retAddr 0, .retAddr 0] [] h3) ∧ ((z5 : Int32) = 0 → q (some (.int ((-1)))) h3)))) : WP gc (d + 1) 62 [.ref a0, .int x1] h q := ⟨q, fun _ _ z => z, Tf_fold H⟩
-- QueueBroker.findAbleConsumer(LQueueBroker$Queue;)I
theorem B64_67 {gc : Nat → Nat} {d : Nat} {q : PT} {h : AH} {a0 : Nat} {a1 : Nat} {x2 : Int32} {v3 : Value} {v4 : Value}
    (H : q (some (.int ((-1)))) h) : TT gc d 64 q 67 [.ref a0, .ref a1, .int x2, v3, v4] [] h := Tf_fold H
theorem B64_61 {gc : Nat → Nat} {d : Nat} {q : PT} {h : AH} {a0 : Nat} {a1 : Nat} {x2 : Int32} {a3 : Nat} {a4 : Nat}
    (H : TT gc d 64 q 2 [.ref a0, .ref a1, .int (x2 + 1), .ref a3, .ref a4] [] h) : TT gc d 64 q 61 [.ref a0, .ref a1, .int x2, .ref a3, .ref a4] [] h := Tf_fold H
theorem B64_59 {gc : Nat → Nat} {d : Nat} {q : PT} {h : AH} {a0 : Nat} {a1 : Nat} {x2 : Int32} {a3 : Nat} {a4 : Nat}
    (H : q (some (.int x2)) h) : TT gc d 64 q 59 [.ref a0, .ref a1, .int x2, .ref a3, .ref a4] [] h := Tf_fold H
theorem B64_2 {gc : Nat → Nat} {d : Nat} {q : PT} {h : AH} {a0 : Nat} {a1 : Nat} {x2 : Int32} {v3 : Value} {v4 : Value}
    (H : (∃ (vs1 : List Value) (b2 : Nat), at_ h a1 8 vs1 ∧ vs1[5]? = some (.ref b2) ∧ ((∃ vs6 : List Value, at_ h b2 10 vs6) ∧ ∃ Q3 : PT, WP gc d 17 [.ref b2] h Q3 ∧ ∀ (r4 : Option Value) (h5 : AH), Q3 r4 h5 → ∃ z7 : Int32, r4 = some (.int z7) ∧ ((z7 ≤ (x2 : Int32) → TT gc d 64 q 67 [.ref a0, .ref a1, .int x2, v3, v4] [] h5) ∧ (¬ z7 ≤ (x2 : Int32) → (∃ (vs8 : List Value) (b9 : Nat), at_ h5 a1 8 vs8 ∧ vs8[5]? = some (.ref b9) ∧ ((∃ vs13 : List Value, at_ h5 b9 10 vs13) ∧ ∃ Q10 : PT, WP gc d 18 [.ref b9, .int x2] h5 Q10 ∧ ∀ (r11 : Option Value) (h12 : AH), Q10 r11 h12 → ∃ b14 : Nat, r11 = some (.ref b14) ∧ (∃ vs15 : List Value, at_ h12 b14 3 vs15 ∧ (∃ (vs16 : List Value) (b17 : Nat), at_ h12 a0 9 vs16 ∧ vs16[2]? = some (.ref b17) ∧ (∃ (vs18 : List Value) (z19 : Int32), at_ h12 b14 3 vs18 ∧ vs18[0]? = some (.int z19) ∧ (∃ (t20 : Nat) (vs21 : List Value) (b22 : Nat), at_ h12 b17 t20 vs21 ∧ isRA t20 = true ∧ ¬ (z19 : Int32) < 0 ∧ vs21[(z19 : Int32).toNatClampNeg]? = some (.ref b22) ∧ (∃ (vs23 : List Value) (z24 : Int32), at_ h12 b14 3 vs23 ∧ vs23[1]? = some (.int z24) ∧ ((¬ (z24 : Int32) = 0 → TT gc d 64 q 59 [.ref a0, .ref a1, .int x2, .ref b14, .ref b22] [] h12) ∧ ((z24 : Int32) = 0 → (∃ (vs25 : List Value) (b26 : Nat), at_ h12 b22 2 vs25 ∧ vs25[3]? = some (.ref b26) ∧ ((∃ vs30 : List Value, at_ h12 b26 10 vs30) ∧ ∃ Q27 : PT, WP gc d 17 [.ref b26] h12 Q27 ∧ ∀ (r28 : Option Value) (h29 : AH), Q27 r28 h29 → ∃ z31 : Int32, r28 = some (.int z31) ∧ (∃ (vs32 : List Value) (z33 : Int32), at_ h29 b22 2 vs32 ∧ vs32[0]? = some (.int z33) ∧ ((z33 ≤ (z31 : Int32) → TT gc d 64 q 61 [.ref a0, .ref a1, .int x2, .ref b14, .ref b22] [] h29) ∧ (¬ z33 ≤ (z31 : Int32) → TT gc d 64 q 59 [.ref a0, .ref a1, .int x2, .ref b14, .ref b22] [] h29))))))))))))))))))) : TT gc d 64 q 2 [.ref a0, .ref a1, .int x2, v3, v4] [] h := Tf_fold H
theorem M64 {gc : Nat → Nat} {d : Nat} {q : PT} {h : AH} {a0 : Nat} {a1 : Nat}
    (H : TT gc d 64 q 2 [.ref a0, .ref a1, .int 0, .retAddr 0, .retAddr 0] [] h) : WP gc (d + 1) 64 [.ref a0, .ref a1] h q := ⟨q, fun _ _ z => z, Tf_fold H⟩
-- QueueBroker$Channel.hold(LQueueBroker$Copy;)V
theorem M65 {gc : Nat → Nat} {d : Nat} {q : PT} {h : AH} {a0 : Nat} {a1 : Nat}
    (H : (∃ (vs1 : List Value) (z2 : Int32), at_ h a0 2 vs1 ∧ vs1[2]? = some (.int z2) ∧ (∃ vs3 : List Value, at_ h a0 2 vs3 ∧ 2 < vs3.length ∧ True ∧ ∀ h4 : AH, h4 = ah_set h a0 (2, vs3.set 2 (.int (z2 + 1))) → (∃ (vs5 : List Value) (z6 : Int32), at_ h4 a0 2 vs5 ∧ vs5[2]? = some (.int z6) ∧ (∃ vs7 : List Value, at_ h4 a1 4 vs7 ∧ 4 < vs7.length ∧ True ∧ ∀ h8 : AH, h8 = ah_set h4 a1 (4, vs7.set 4 (.int z6)) → (∃ vs9 : List Value, at_ h8 a1 4 vs9 ∧ 5 < vs9.length ∧ True ∧ ∀ h10 : AH, h10 = ah_set h8 a1 (4, vs9.set 5 (.int ((-1)))) → (∃ (vs11 : List Value) (b12 : Nat), at_ h10 a0 2 vs11 ∧ vs11[3]? = some (.ref b12) ∧ ((∃ vs16 : List Value, at_ h10 b12 10 vs16) ∧ ∃ Q13 : PT, WP gc d 23 [.ref b12, .ref a1] h10 Q13 ∧ ∀ (r14 : Option Value) (h15 : AH), Q13 r14 h15 → ∃ z17 : Int32, r14 = some (.int z17) ∧ q none h15)))))))) : WP gc (d + 1) 65 [.ref a0, .ref a1] h q := ⟨q, fun _ _ z => z, Tf_fold H⟩
-- QueueBroker.settle(IIZI)I
theorem B66_128 {gc : Nat → Nat} {d : Nat} {q : PT} {h : AH} {a0 : Nat} {x1 : Int32} {x2 : Int32} {x3 : Int32} {x4 : Int32} {a5 : Nat} {x6 : Int32} {x7 : Int32}
    (H : ((∃ vs4 : List Value, at_ h a0 9 vs4) ∧ ∃ Q1 : PT, WP gc d 70 [.ref a0, .ref a5, .int x7, .int x4] h Q1 ∧ ∀ (r2 : Option Value) (h3 : AH), Q1 r2 h3 → r2 = none ∧ ((∃ vs8 : List Value, at_ h3 a0 9 vs8) ∧ ∃ Q5 : PT, WP gc d 54 [.ref a0] h3 Q5 ∧ ∀ (r6 : Option Value) (h7 : AH), Q5 r6 h7 → r6 = none ∧ q (some (.int x6)) h7))) : TT gc d 66 q 128 [.ref a0, .int x1, .int x2, .int x3, .int x4, .ref a5, .int x6, .int x7] [] h := Tf_fold H
theorem B66_78 {gc : Nat → Nat} {d : Nat} {q : PT} {h : AH} {a0 : Nat} {x1 : Int32} {x2 : Int32} {x3 : Int32} {x4 : Int32} {a5 : Nat} {x6 : Int32}
    (H : (∃ (vs1 : List Value) (b2 : Nat), at_ h a5 2 vs1 ∧ vs1[4]? = some (.ref b2) ∧ ((∃ vs6 : List Value, at_ h b2 10 vs6) ∧ ∃ Q3 : PT, WP gc d 17 [.ref b2] h Q3 ∧ ∀ (r4 : Option Value) (h5 : AH), Q3 r4 h5 → ∃ z7 : Int32, r4 = some (.int z7) ∧ ((∃ vs11 : List Value, at_ h5 a5 2 vs11) ∧ ∃ Q8 : PT, WP gc d 69 [.ref a5, .int x2, .int x3, .int z7] h5 Q8 ∧ ∀ (r9 : Option Value) (h10 : AH), Q8 r9 h10 → r9 = none ∧ (∃ (vs12 : List Value) (z13 : Int32), at_ h10 a5 2 vs12 ∧ vs12[1]? = some (.int z13) ∧ (((z13 : Int32) = 0 → TT gc d 66 q 128 [.ref a0, .int x1, .int x2, .int x3, .int x4, .ref a5, .int x6, .int z7] [] h10) ∧ (¬ (z13 : Int32) = 0 → (∃ (vs14 : List Value) (b15 : Nat), at_ h10 a5 2 vs14 ∧ vs14[4]? = some (.ref b15) ∧ (1 ≤ h10.2.1 ∧ (dfl 5).length ≤ h10.2.2.1 ∧ ∀ (b16 : Nat) (h17 : AH), b16 = h10.1 → h17 = ah_new h10 (5, dfl 5) → (∃ Q18 : PT, WP gc d 43 [.ref b16, .int ((-1)), .null, .int x4] h17 Q18 ∧ ∀ (r19 : Option Value) (h20 : AH), Q18 r19 h20 → r19 = none ∧ ((∃ vs24 : List Value, at_ h20 b15 10 vs24) ∧ ∃ Q21 : PT, WP gc d 23 [.ref b15, .ref b16] h20 Q21 ∧ ∀ (r22 : Option Value) (h23 : AH), Q21 r22 h23 → ∃ z25 : Int32, r22 = some (.int z25) ∧ q (some (.int 100)) h23))))))))))) : TT gc d 66 q 78 [.ref a0, .int x1, .int x2, .int x3, .int x4, .ref a5, .int x6, .retAddr 0] [] h := Tf_fold H
theorem B66_55 {gc : Nat → Nat} {d : Nat} {q : PT} {h : AH} {a0 : Nat} {x1 : Int32} {x2 : Int32} {x3 : Int32} {x4 : Int32} {a5 : Nat} {x6 : Int32}
    (H : (∃ (vs1 : List Value) (z2 : Int32), at_ h a5 2 vs1 ∧ vs1[1]? = some (.int z2) ∧ (((z2 : Int32) = 0 → TT gc d 66 q 78 [.ref a0, .int x1, .int x2, .int x3, .int x4, .ref a5, .int x6, .retAddr 0] [] h) ∧ (¬ (z2 : Int32) = 0 → (∃ (vs3 : List Value) (b4 : Nat), at_ h a5 2 vs3 ∧ vs3[4]? = some (.ref b4) ∧ ((∃ vs8 : List Value, at_ h b4 10 vs8) ∧ ∃ Q5 : PT, WP gc d 17 [.ref b4] h Q5 ∧ ∀ (r6 : Option Value) (h7 : AH), Q5 r6 h7 → ∃ z9 : Int32, r6 = some (.int z9) ∧ (((z9 : Int32) < 4 → TT gc d 66 q 78 [.ref a0, .int x1, .int x2, .int x3, .int x4, .ref a5, .int x6, .retAddr 0] [] h7) ∧ (¬ (z9 : Int32) < 4 → q (some (.int ((-2)))) h7)))))))) : TT gc d 66 q 55 [.ref a0, .int x1, .int x2, .int x3, .int x4, .ref a5, .int x6, .retAddr 0] [] h := Tf_fold H
theorem B66_31 {gc : Nat → Nat} {d : Nat} {q : PT} {h : AH} {a0 : Nat} {x1 : Int32} {x2 : Int32} {x3 : Int32} {x4 : Int32}
    (H : (∃ (vs1 : List Value) (b2 : Nat), at_ h a0 9 vs1 ∧ vs1[2]? = some (.ref b2) ∧ (∃ (t3 : Nat) (vs4 : List Value) (b5 : Nat), at_ h b2 t3 vs4 ∧ isRA t3 = true ∧ ¬ (x1 : Int32) < 0 ∧ vs4[(x1 : Int32).toNatClampNeg]? = some (.ref b5) ∧ ((∃ vs9 : List Value, at_ h b5 2 vs9) ∧ ∃ Q6 : PT, WP gc d 67 [.ref b5, .int x2, .int x3] h Q6 ∧ ∀ (r7 : Option Value) (h8 : AH), Q6 r7 h8 → ∃ z10 : Int32, r7 = some (.int z10) ∧ ((¬ (z10 : Int32) = 0 → TT gc d 66 q 55 [.ref a0, .int x1, .int x2, .int x3, .int x4, .ref b5, .int z10, .retAddr 0] [] h8) ∧ ((z10 : Int32) = 0 → q (some (.int ((-1)))) h8)))))) : TT gc d 66 q 31 [.ref a0, .int x1, .int x2, .int x3, .int x4, .retAddr 0, .retAddr 0, .retAddr 0] [] h := Tf_fold H
theorem B66_29 {gc : Nat → Nat} {d : Nat} {q : PT} {h : AH} {a0 : Nat} {x1 : Int32} {x2 : Int32} {x3 : Int32} {x4 : Int32}
    (H : q (some (.int ((-1)))) h) : TT gc d 66 q 29 [.ref a0, .int x1, .int x2, .int x3, .int x4, .retAddr 0, .retAddr 0, .retAddr 0] [] h := Tf_fold H
theorem B66_19 {gc : Nat → Nat} {d : Nat} {q : PT} {h : AH} {a0 : Nat} {x1 : Int32} {x2 : Int32} {x3 : Int32} {x4 : Int32}
    (H : (∃ Q1 : PT, WP gc d 8 [.int x4, .int 0, .int 2] h Q1 ∧ ∀ (r2 : Option Value) (h3 : AH), Q1 r2 h3 → ∃ z4 : Int32, r2 = some (.int z4) ∧ ((¬ (z4 : Int32) = 0 → TT gc d 66 q 31 [.ref a0, .int x1, .int x2, .int x3, .int x4, .retAddr 0, .retAddr 0, .retAddr 0] [] h3) ∧ ((z4 : Int32) = 0 → TT gc d 66 q 29 [.ref a0, .int x1, .int x2, .int x3, .int x4, .retAddr 0, .retAddr 0, .retAddr 0] [] h3)))) : TT gc d 66 q 19 [.ref a0, .int x1, .int x2, .int x3, .int x4, .retAddr 0, .retAddr 0, .retAddr 0] [] h := Tf_fold H
theorem M66 {gc : Nat → Nat} {d : Nat} {q : PT} {h : AH} {a0 : Nat} {x1 : Int32} {x2 : Int32} {x3 : Int32} {x4 : Int32}
    (H : (∃ Q1 : PT, WP gc d 40 [.int x1] h Q1 ∧ ∀ (r2 : Option Value) (h3 : AH), Q1 r2 h3 → ∃ z4 : Int32, r2 = some (.int z4) ∧ (((z4 : Int32) = 0 → TT gc d 66 q 29 [.ref a0, .int x1, .int x2, .int x3, .int x4, .retAddr 0, .retAddr 0, .retAddr 0] [] h3) ∧ (¬ (z4 : Int32) = 0 → (((x2 : Int32) < 0 → TT gc d 66 q 29 [.ref a0, .int x1, .int x2, .int x3, .int x4, .retAddr 0, .retAddr 0, .retAddr 0] [] h3) ∧ (¬ (x2 : Int32) < 0 → ((¬ (x2 : Int32) = 0 → TT gc d 66 q 19 [.ref a0, .int x1, .int x2, .int x3, .int x4, .retAddr 0, .retAddr 0, .retAddr 0] [] h3) ∧ ((x2 : Int32) = 0 → (((x3 : Int32) = 0 → TT gc d 66 q 29 [.ref a0, .int x1, .int x2, .int x3, .int x4, .retAddr 0, .retAddr 0, .retAddr 0] [] h3) ∧ (¬ (x3 : Int32) = 0 → TT gc d 66 q 19 [.ref a0, .int x1, .int x2, .int x3, .int x4, .retAddr 0, .retAddr 0, .retAddr 0] [] h3)))))))))) : WP gc (d + 1) 66 [.ref a0, .int x1, .int x2, .int x3, .int x4] h q := ⟨q, fun _ _ z => z, Tf_fold H⟩
-- QueueBroker$Channel.countSettled(IZ)I
theorem B67_47 {gc : Nat → Nat} {d : Nat} {q : PT} {h : AH} {a0 : Nat} {x1 : Int32} {x2 : Int32} {x3 : Int32} {x4 : Int32}
    (H : q (some (.int x3)) h) : TT gc d 67 q 47 [.ref a0, .int x1, .int x2, .int x3, .int x4] [] h := Tf_fold H
theorem B67_41 {gc : Nat → Nat} {d : Nat} {q : PT} {h : AH} {a0 : Nat} {x1 : Int32} {x2 : Int32} {x3 : Int32} {x4 : Int32}
    (H : TT gc d 67 q 5 [.ref a0, .int x1, .int x2, .int x3, .int (x4 + 1)] [] h) : TT gc d 67 q 41 [.ref a0, .int x1, .int x2, .int x3, .int x4] [] h := Tf_fold H
theorem B67_5 {gc : Nat → Nat} {d : Nat} {q : PT} {h : AH} {a0 : Nat} {x1 : Int32} {x2 : Int32} {x3 : Int32} {x4 : Int32}
    (H : (∃ (vs1 : List Value) (b2 : Nat), at_ h a0 2 vs1 ∧ vs1[3]? = some (.ref b2) ∧ ((∃ vs6 : List Value, at_ h b2 10 vs6) ∧ ∃ Q3 : PT, WP gc d 17 [.ref b2] h Q3 ∧ ∀ (r4 : Option Value) (h5 : AH), Q3 r4 h5 → ∃ z7 : Int32, r4 = some (.int z7) ∧ ((z7 ≤ (x4 : Int32) → TT gc d 67 q 47 [.ref a0, .int x1, .int x2, .int x3, .int x4] [] h5) ∧ (¬ z7 ≤ (x4 : Int32) → (∃ (vs8 : List Value) (b9 : Nat), at_ h5 a0 2 vs8 ∧ vs8[3]? = some (.ref b9) ∧ ((∃ vs13 : List Value, at_ h5 b9 10 vs13) ∧ ∃ Q10 : PT, WP gc d 18 [.ref b9, .int x4] h5 Q10 ∧ ∀ (r11 : Option Value) (h12 : AH), Q10 r11 h12 → ∃ b14 : Nat, r11 = some (.ref b14) ∧ (∃ vs15 : List Value, at_ h12 b14 4 vs15 ∧ ((∃ vs19 : List Value, at_ h12 a0 2 vs19) ∧ ∃ Q16 : PT, WP gc d 68 [.ref a0, .ref b14, .int x1, .int x2] h12 Q16 ∧ ∀ (r17 : Option Value) (h18 : AH), Q16 r17 h18 → ∃ z20 : Int32, r17 = some (.int z20) ∧ (((z20 : Int32) = 0 → TT gc d 67 q 41 [.ref a0, .int x1, .int x2, .int x3, .int x4] [] h18) ∧ (¬ (z20 : Int32) = 0 → TT gc d 67 q 41 [.ref a0, .int x1, .int x2, .int (x3 + 1), .int x4] [] h18))))))))))) : TT gc d 67 q 5 [.ref a0, .int x1, .int x2, .int x3, .int x4] [] h := Tf_fold H
theorem M67 {gc : Nat → Nat} {d : Nat} {q : PT} {h : AH} {a0 : Nat} {x1 : Int32} {x2 : Int32}
    (H : TT gc d 67 q 5 [.ref a0, .int x1, .int x2, .int 0, .int 0] [] h) : WP gc (d + 1) 67 [.ref a0, .int x1, .int x2] h q := ⟨q, fun _ _ z => z, Tf_fold H⟩
-- QueueBroker$Channel.isSettled(LQueueBroker$Copy;IZ)Z
theorem B68_47 {gc : Nat → Nat} {d : Nat} {q : PT} {h : AH} {a0 : Nat} {a1 : Nat} {x2 : Int32} {x3 : Int32} {sx0 : Int32}
    (H : (((sx0 : Int32) = 0 ∨ (sx0 : Int32) = 1) ∧ q (some (.int sx0)) h)) : TT gc d 68 q 47 [.ref a0, .ref a1, .int x2, .int x3] [.int sx0] h := Tf_fold H
theorem B68_46 {gc : Nat → Nat} {d : Nat} {q : PT} {h : AH} {a0 : Nat} {a1 : Nat} {x2 : Int32} {x3 : Int32}
    (H : TT gc d 68 q 47 [.ref a0, .ref a1, .int x2, .int x3] [.int 0] h) : TT gc d 68 q 46 [.ref a0, .ref a1, .int x2, .int x3] [] h := Tf_fold H
theorem B68_34 {gc : Nat → Nat} {d : Nat} {q : PT} {h : AH} {a0 : Nat} {a1 : Nat} {x2 : Int32} {x3 : Int32}
    (H : (∃ (vs1 : List Value) (z2 : Int32), at_ h a1 4 vs1 ∧ vs1[4]? = some (.int z2) ∧ ((¬ (z2 : Int32) = x2 → TT gc d 68 q 46 [.ref a0, .ref a1, .int x2, .int x3] [] h) ∧ ((z2 : Int32) = x2 → TT gc d 68 q 47 [.ref a0, .ref a1, .int x2, .int x3] [.int 1] h)))) : TT gc d 68 q 34 [.ref a0, .ref a1, .int x2, .int x3] [] h := Tf_fold H
theorem B68_30 {gc : Nat → Nat} {d : Nat} {q : PT} {h : AH} {a0 : Nat} {a1 : Nat} {x2 : Int32} {x3 : Int32}
    (H : TT gc d 68 q 47 [.ref a0, .ref a1, .int x2, .int x3] [.int 0] h) : TT gc d 68 q 30 [.ref a0, .ref a1, .int x2, .int x3] [] h := Tf_fold H
theorem B68_26 {gc : Nat → Nat} {d : Nat} {q : PT} {h : AH} {a0 : Nat} {a1 : Nat} {x2 : Int32} {x3 : Int32}
    (H : TT gc d 68 q 47 [.ref a0, .ref a1, .int x2, .int x3] [.int 1] h) : TT gc d 68 q 26 [.ref a0, .ref a1, .int x2, .int x3] [] h := Tf_fold H
theorem B68_10 {gc : Nat → Nat} {d : Nat} {q : PT} {h : AH} {a0 : Nat} {a1 : Nat} {x2 : Int32} {x3 : Int32}
    (H : (((x3 : Int32) = 0 → TT gc d 68 q 34 [.ref a0, .ref a1, .int x2, .int x3] [] h) ∧ (¬ (x3 : Int32) = 0 → (((x2 : Int32) = 0 → TT gc d 68 q 26 [.ref a0, .ref a1, .int x2, .int x3] [] h) ∧ (¬ (x2 : Int32) = 0 → (∃ (vs1 : List Value) (z2 : Int32), at_ h a1 4 vs1 ∧ vs1[4]? = some (.int z2) ∧ ((x2 < (z2 : Int32) → TT gc d 68 q 30 [.ref a0, .ref a1, .int x2, .int x3] [] h) ∧ (¬ x2 < (z2 : Int32) → TT gc d 68 q 26 [.ref a0, .ref a1, .int x2, .int x3] [] h)))))))) : TT gc d 68 q 10 [.ref a0, .ref a1, .int x2, .int x3] [] h := Tf_fold H
theorem M68 {gc : Nat → Nat} {d : Nat} {q : PT} {h : AH} {a0 : Nat} {a1 : Nat} {x2 : Int32} {x3 : Int32}
    (H : (∃ (vs1 : List Value) (z2 : Int32), at_ h a1 4 vs1 ∧ vs1[5]? = some (.int z2) ∧ (((z2 : Int32) = (((-1))) → TT gc d 68 q 10 [.ref a0, .ref a1, .int x2, .int x3] [] h) ∧ (¬ (z2 : Int32) = (((-1))) → (((0 : Int32) = 0 ∨ (0 : Int32) = 1) ∧ q (some (.int 0)) h))))) : WP gc (d + 1) 68 [.ref a0, .ref a1, .int x2, .int x3] h q := ⟨q, fun _ _ z => z, Tf_fold H⟩
-- QueueBroker$Channel.markSettled(IZI)V
theorem B69_58 {gc : Nat → Nat} {d : Nat} {q : PT} {h : AH} {a0 : Nat} {x1 : Int32} {x2 : Int32} {x3 : Int32} {x4 : Int32}
    (H : q none h) : TT gc d 69 q 58 [.ref a0, .int x1, .int x2, .int x3, .int x4] [] h := Tf_fold H
theorem B69_52 {gc : Nat → Nat} {d : Nat} {q : PT} {h : AH} {a0 : Nat} {x1 : Int32} {x2 : Int32} {x3 : Int32} {x4 : Int32}
    (H : TT gc d 69 q 3 [.ref a0, .int x1, .int x2, .int x3, .int (x4 + 1)] [] h) : TT gc d 69 q 52 [.ref a0, .int x1, .int x2, .int x3, .int x4] [] h := Tf_fold H
theorem B69_3 {gc : Nat → Nat} {d : Nat} {q : PT} {h : AH} {a0 : Nat} {x1 : Int32} {x2 : Int32} {x3 : Int32} {x4 : Int32}
    (H : (∃ (vs1 : List Value) (b2 : Nat), at_ h a0 2 vs1 ∧ vs1[3]? = some (.ref b2) ∧ ((∃ vs6 : List Value, at_ h b2 10 vs6) ∧ ∃ Q3 : PT, WP gc d 17 [.ref b2] h Q3 ∧ ∀ (r4 : Option Value) (h5 : AH), Q3 r4 h5 → ∃ z7 : Int32, r4 = some (.int z7) ∧ ((z7 ≤ (x4 : Int32) → TT gc d 69 q 58 [.ref a0, .int x1, .int x2, .int x3, .int x4] [] h5) ∧ (¬ z7 ≤ (x4 : Int32) → (∃ (vs8 : List Value) (b9 : Nat), at_ h5 a0 2 vs8 ∧ vs8[3]? = some (.ref b9) ∧ ((∃ vs13 : List Value, at_ h5 b9 10 vs13) ∧ ∃ Q10 : PT, WP gc d 18 [.ref b9, .int x4] h5 Q10 ∧ ∀ (r11 : Option Value) (h12 : AH), Q10 r11 h12 → ∃ b14 : Nat, r11 = some (.ref b14) ∧ (∃ vs15 : List Value, at_ h12 b14 4 vs15 ∧ ((∃ vs19 : List Value, at_ h12 a0 2 vs19) ∧ ∃ Q16 : PT, WP gc d 68 [.ref a0, .ref b14, .int x1, .int x2] h12 Q16 ∧ ∀ (r17 : Option Value) (h18 : AH), Q16 r17 h18 → ∃ z20 : Int32, r17 = some (.int z20) ∧ (((z20 : Int32) = 0 → TT gc d 69 q 52 [.ref a0, .int x1, .int x2, .int x3, .int x4] [] h18) ∧ (¬ (z20 : Int32) = 0 → (∃ (vs21 : List Value) (b22 : Nat), at_ h18 a0 2 vs21 ∧ vs21[3]? = some (.ref b22) ∧ ((∃ vs26 : List Value, at_ h18 b22 10 vs26) ∧ ∃ Q23 : PT, WP gc d 18 [.ref b22, .int x4] h18 Q23 ∧ ∀ (r24 : Option Value) (h25 : AH), Q23 r24 h25 → ∃ b27 : Nat, r24 = some (.ref b27) ∧ (∃ vs28 : List Value, at_ h25 b27 4 vs28 ∧ (∃ vs29 : List Value, at_ h25 b27 4 vs29 ∧ 5 < vs29.length ∧ True ∧ ∀ h30 : AH, h30 = ah_set h25 b27 (4, vs29.set 5 (.int x3)) → TT gc d 69 q 52 [.ref a0, .int x1, .int x2, .int x3, .int x4] [] h30))))))))))))))) : TT gc d 69 q 3 [.ref a0, .int x1, .int x2, .int x3, .int x4] [] h := Tf_fold H
theorem M69 {gc : Nat → Nat} {d : Nat} {q : PT} {h : AH} {a0 : Nat} {x1 : Int32} {x2 : Int32} {x3 : Int32}
    (H : TT gc d 69 q 3 [.ref a0, .int x1, .int x2, .int x3, .int 0] [] h) : WP gc (d + 1) 69 [.ref a0, .int x1, .int x2, .int x3] h q := ⟨q, fun _ _ z => z, Tf_fold H⟩
-- QueueBroker.settleMarked(LQueueBroker$Channel;II)V
theorem B70_70 {gc : Nat → Nat} {d : Nat} {q : PT} {h : AH} {a0 : Nat} {a1 : Nat} {x2 : Int32} {x3 : Int32} {x4 : Int32} {x5 : Int32} {x6 : Int32}
    (H : q none h) : TT gc d 70 q 70 [.ref a0, .ref a1, .int x2, .int x3, .int x4, .int x5, .int x6] [] h := Tf_fold H
theorem B70_64 {gc : Nat → Nat} {d : Nat} {q : PT} {h : AH} {a0 : Nat} {a1 : Nat} {x2 : Int32} {x3 : Int32} {x4 : Int32} {x5 : Int32} {x6 : Int32}
    (H : TT gc d 70 q 15 [.ref a0, .ref a1, .int x2, .int x3, .int x4, .int x5, .int (x6 + 1)] [] h) : TT gc d 70 q 64 [.ref a0, .ref a1, .int x2, .int x3, .int x4, .int x5, .int x6] [] h := Tf_fold H
theorem B70_61 {gc : Nat → Nat} {d : Nat} {q : PT} {h : AH} {a0 : Nat} {a1 : Nat} {x2 : Int32} {x3 : Int32} {x4 : Int32} {x5 : Int32} {x6 : Int32}
    (H : TT gc d 70 q 64 [.ref a0, .ref a1, .int x2, .int x3, .int x4, .int (x5 + 1), .int x6] [] h) : TT gc d 70 q 61 [.ref a0, .ref a1, .int x2, .int x3, .int x4, .int x5, .int x6] [] h := Tf_fold H
theorem B70_15 {gc : Nat → Nat} {d : Nat} {q : PT} {h : AH} {a0 : Nat} {a1 : Nat} {x2 : Int32} {x3 : Int32} {x4 : Int32} {x5 : Int32} {x6 : Int32}
    (H : ((x4 ≤ (x6 : Int32) → TT gc d 70 q 70 [.ref a0, .ref a1, .int x2, .int x3, .int x4, .int x5, .int x6] [] h) ∧ (¬ x4 ≤ (x6 : Int32) → (∃ (vs1 : List Value) (b2 : Nat), at_ h a1 2 vs1 ∧ vs1[3]? = some (.ref b2) ∧ ((∃ vs6 : List Value, at_ h b2 10 vs6) ∧ ∃ Q3 : PT, WP gc d 18 [.ref b2, .int x5] h Q3 ∧ ∀ (r4 : Option Value) (h5 : AH), Q3 r4 h5 → ∃ b7 : Nat, r4 = some (.ref b7) ∧ (∃ vs8 : List Value, at_ h5 b7 4 vs8 ∧ (∃ (vs9 : List Value) (z10 : Int32), at_ h5 b7 4 vs9 ∧ vs9[5]? = some (.int z10) ∧ ((¬ (z10 : Int32) = x2 → TT gc d 70 q 61 [.ref a0, .ref a1, .int x2, .int x3, .int x4, .int x5, .int x6] [] h5) ∧ ((z10 : Int32) = x2 → (∃ (vs11 : List Value) (b12 : Nat), at_ h5 a1 2 vs11 ∧ vs11[3]? = some (.ref b12) ∧ ((∃ vs16 : List Value, at_ h5 b12 10 vs16) ∧ ∃ Q13 : PT, WP gc d 32 [.ref b12, .int x5] h5 Q13 ∧ ∀ (r14 : Option Value) (h15 : AH), Q13 r14 h15 → ∃ b17 : Nat, r14 = some (.ref b17) ∧ (∃ vs18 : List Value, at_ h15 b17 4 vs18 ∧ ((∃ vs22 : List Value, at_ h15 a0 9 vs22) ∧ ∃ Q19 : PT, WP gc d 71 [.ref a0, .ref b17, .int x3] h15 Q19 ∧ ∀ (r20 : Option Value) (h21 : AH), Q19 r20 h21 → r20 = none ∧ TT gc d 70 q 64 [.ref a0, .ref a1, .int x2, .int x3, .int x4, .int x5, .int x6] [] h21))))))))))))) : TT gc d 70 q 15 [.ref a0, .ref a1, .int x2, .int x3, .int x4, .int x5, .int x6] [] h := Tf_fold H
theorem M70 {gc : Nat → Nat} {d : Nat} {q : PT} {h : AH} {a0 : Nat} {a1 : Nat} {x2 : Int32} {x3 : Int32}
    (H : (∃ (vs1 : List Value) (b2 : Nat), at_ h a1 2 vs1 ∧ vs1[3]? = some (.ref b2) ∧ ((∃ vs6 : List Value, at_ h b2 10 vs6) ∧ ∃ Q3 : PT, WP gc d 17 [.ref b2] h Q3 ∧ ∀ (r4 : Option Value) (h5 : AH), Q3 r4 h5 → ∃ z7 : Int32, r4 = some (.int z7) ∧ TT gc d 70 q 15 [.ref a0, .ref a1, .int x2, .int x3, .int z7, .int 0, .int 0] [] h5))) : WP gc (d + 1) 70 [.ref a0, .ref a1, .int x2, .int x3] h q := ⟨q, fun _ _ z => z, Tf_fold H⟩
-- QueueBroker.settleCopy(LQueueBroker$Copy;I)V
theorem B71_27 {gc : Nat → Nat} {d : Nat} {q : PT} {h : AH} {a0 : Nat} {a1 : Nat} {x2 : Int32}
    (H : q none h) : TT gc d 71 q 27 [.ref a0, .ref a1, .int x2] [] h := Tf_fold H
theorem B71_13 {gc : Nat → Nat} {d : Nat} {q : PT} {h : AH} {a0 : Nat} {a1 : Nat} {x2 : Int32}
    (H : ((¬ (x2 : Int32) = 2 → TT gc d 71 q 27 [.ref a0, .ref a1, .int x2] [] h) ∧ ((x2 : Int32) = 2 → (∃ (vs1 : List Value) (b2 : Nat), at_ h a0 9 vs1 ∧ vs1[4]? = some (.ref b2) ∧ ((∃ vs6 : List Value, at_ h b2 10 vs6) ∧ ∃ Q3 : PT, WP gc d 23 [.ref b2, .ref a1] h Q3 ∧ ∀ (r4 : Option Value) (h5 : AH), Q3 r4 h5 → ∃ z7 : Int32, r4 = some (.int z7) ∧ TT gc d 71 q 27 [.ref a0, .ref a1, .int x2] [] h5))))) : TT gc d 71 q 13 [.ref a0, .ref a1, .int x2] [] h := Tf_fold H
theorem M71 {gc : Nat → Nat} {d : Nat} {q : PT} {h : AH} {a0 : Nat} {a1 : Nat} {x2 : Int32}
    (H : ((¬ (x2 : Int32) = 1 → TT gc d 71 q 13 [.ref a0, .ref a1, .int x2] [] h) ∧ ((x2 : Int32) = 1 → ((∃ vs4 : List Value, at_ h a0 9 vs4) ∧ ∃ Q1 : PT, WP gc d 72 [.ref a0, .ref a1] h Q1 ∧ ∀ (r2 : Option Value) (h3 : AH), Q1 r2 h3 → r2 = none ∧ TT gc d 71 q 27 [.ref a0, .ref a1, .int x2] [] h3)))) : WP gc (d + 1) 71 [.ref a0, .ref a1, .int x2] h q := ⟨q, fun _ _ z => z, Tf_fold H⟩
-- QueueBroker.giveBack(LQueueBroker$Copy;)V
theorem M72 {gc : Nat → Nat} {d : Nat} {q : PT} {h : AH} {a0 : Nat} {a1 : Nat}
    (H : (∃ vs1 : List Value, at_ h a1 4 vs1 ∧ 3 < vs1.length ∧ ((1 : Int32) = 0 ∨ (1 : Int32) = 1) ∧ ∀ h2 : AH, h2 = ah_set h a1 (4, vs1.set 3 (.int 1)) → (∃ (vs3 : List Value) (b4 : Nat), at_ h2 a0 9 vs3 ∧ vs3[1]? = some (.ref b4) ∧ (∃ (vs5 : List Value) (z6 : Int32), at_ h2 a1 4 vs5 ∧ vs5[1]? = some (.int z6) ∧ (∃ (t7 : Nat) (vs8 : List Value) (b9 : Nat), at_ h2 b4 t7 vs8 ∧ isRA t7 = true ∧ ¬ (z6 : Int32) < 0 ∧ vs8[(z6 : Int32).toNatClampNeg]? = some (.ref b9) ∧ ((∃ vs13 : List Value, at_ h2 b9 8 vs13) ∧ ∃ Q10 : PT, WP gc d 51 [.ref b9, .ref a1] h2 Q10 ∧ ∀ (r11 : Option Value) (h12 : AH), Q10 r11 h12 → r11 = none ∧ q none h12)))))) : WP gc (d + 1) 72 [.ref a0, .ref a1] h q := ⟨q, fun _ _ z => z, Tf_fold H⟩
-- QueueBroker.prefetch(II)I
theorem B73_19 {gc : Nat → Nat} {d : Nat} {q : PT} {h : AH} {a0 : Nat} {x1 : Int32} {x2 : Int32}
    (H : (∃ (vs1 : List Value) (b2 : Nat), at_ h a0 9 vs1 ∧ vs1[2]? = some (.ref b2) ∧ (∃ (t3 : Nat) (vs4 : List Value) (b5 : Nat), at_ h b2 t3 vs4 ∧ isRA t3 = true ∧ ¬ (x1 : Int32) < 0 ∧ vs4[(x1 : Int32).toNatClampNeg]? = some (.ref b5) ∧ (∃ vs6 : List Value, at_ h b5 2 vs6 ∧ 0 < vs6.length ∧ True ∧ ∀ h7 : AH, h7 = ah_set h b5 (2, vs6.set 0 (.int x2)) → q (some (.int 0)) h7)))) : TT gc d 73 q 19 [.ref a0, .int x1, .int x2] [] h := Tf_fold H
theorem B73_17 {gc : Nat → Nat} {d : Nat} {q : PT} {h : AH} {a0 : Nat} {x1 : Int32} {x2 : Int32}
    (H : q (some (.int ((-1)))) h) : TT gc d 73 q 17 [.ref a0, .int x1, .int x2] [] h := Tf_fold H
theorem M73 {gc : Nat → Nat} {d : Nat} {q : PT} {h : AH} {a0 : Nat} {x1 : Int32} {x2 : Int32}
    (H : (∃ Q1 : PT, WP gc d 40 [.int x1] h Q1 ∧ ∀ (r2 : Option Value) (h3 : AH), Q1 r2 h3 → ∃ z4 : Int32, r2 = some (.int z4) ∧ (((z4 : Int32) = 0 → TT gc d 73 q 17 [.ref a0, .int x1, .int x2] [] h3) ∧ (¬ (z4 : Int32) = 0 → (∃ Q5 : PT, WP gc d 8 [.int x2, .int 1, .int 12] h3 Q5 ∧ ∀ (r6 : Option Value) (h7 : AH), Q5 r6 h7 → ∃ z8 : Int32, r6 = some (.int z8) ∧ ((¬ (z8 : Int32) = 0 → TT gc d 73 q 19 [.ref a0, .int x1, .int x2] [] h7) ∧ ((z8 : Int32) = 0 → TT gc d 73 q 17 [.ref a0, .int x1, .int x2] [] h7))))))) : WP gc (d + 1) 73 [.ref a0, .int x1, .int x2] h q := ⟨q, fun _ _ z => z, Tf_fold H⟩
-- QueueBroker.begin(I)I
theorem B74_24 {gc : Nat → Nat} {d : Nat} {q : PT} {h : AH} {a0 : Nat} {x1 : Int32}
    (H : (∃ (vs1 : List Value) (b2 : Nat), at_ h a0 9 vs1 ∧ vs1[2]? = some (.ref b2) ∧ (∃ (t3 : Nat) (vs4 : List Value) (b5 : Nat), at_ h b2 t3 vs4 ∧ isRA t3 = true ∧ ¬ (x1 : Int32) < 0 ∧ vs4[(x1 : Int32).toNatClampNeg]? = some (.ref b5) ∧ (∃ vs6 : List Value, at_ h b5 2 vs6 ∧ 1 < vs6.length ∧ ((1 : Int32) = 0 ∨ (1 : Int32) = 1) ∧ ∀ h7 : AH, h7 = ah_set h b5 (2, vs6.set 1 (.int 1)) → q (some (.int 0)) h7)))) : TT gc d 74 q 24 [.ref a0, .int x1] [] h := Tf_fold H
theorem B74_9 {gc : Nat → Nat} {d : Nat} {q : PT} {h : AH} {a0 : Nat} {x1 : Int32}
    (H : (∃ (vs1 : List Value) (b2 : Nat), at_ h a0 9 vs1 ∧ vs1[2]? = some (.ref b2) ∧ (∃ (t3 : Nat) (vs4 : List Value) (b5 : Nat), at_ h b2 t3 vs4 ∧ isRA t3 = true ∧ ¬ (x1 : Int32) < 0 ∧ vs4[(x1 : Int32).toNatClampNeg]? = some (.ref b5) ∧ (∃ (vs6 : List Value) (z7 : Int32), at_ h b5 2 vs6 ∧ vs6[1]? = some (.int z7) ∧ (((z7 : Int32) = 0 → TT gc d 74 q 24 [.ref a0, .int x1] [] h) ∧ (¬ (z7 : Int32) = 0 → q (some (.int ((-3)))) h)))))) : TT gc d 74 q 9 [.ref a0, .int x1] [] h := Tf_fold H
theorem M74 {gc : Nat → Nat} {d : Nat} {q : PT} {h : AH} {a0 : Nat} {x1 : Int32}
    (H : (∃ Q1 : PT, WP gc d 40 [.int x1] h Q1 ∧ ∀ (r2 : Option Value) (h3 : AH), Q1 r2 h3 → ∃ z4 : Int32, r2 = some (.int z4) ∧ ((¬ (z4 : Int32) = 0 → TT gc d 74 q 9 [.ref a0, .int x1] [] h3) ∧ ((z4 : Int32) = 0 → q (some (.int ((-1)))) h3)))) : WP gc (d + 1) 74 [.ref a0, .int x1] h q := ⟨q, fun _ _ z => z, Tf_fold H⟩
-- QueueBroker.commit(I)I
theorem B75_56 {gc : Nat → Nat} {d : Nat} {q : PT} {h : AH} {a0 : Nat} {x1 : Int32} {a2 : Nat} {x3 : Int32} {x4 : Int32}
    (H : ((∃ vs4 : List Value, at_ h a2 2 vs4) ∧ ∃ Q1 : PT, WP gc d 77 [.ref a2] h Q1 ∧ ∀ (r2 : Option Value) (h3 : AH), Q1 r2 h3 → r2 = none ∧ ((∃ vs8 : List Value, at_ h3 a0 9 vs8) ∧ ∃ Q5 : PT, WP gc d 54 [.ref a0] h3 Q5 ∧ ∀ (r6 : Option Value) (h7 : AH), Q5 r6 h7 → r6 = none ∧ q (some (.int x3)) h7))) : TT gc d 75 q 56 [.ref a0, .int x1, .ref a2, .int x3, .int x4] [] h := Tf_fold H
theorem B75_37 {gc : Nat → Nat} {d : Nat} {q : PT} {h : AH} {a0 : Nat} {x1 : Int32} {a2 : Nat} {x3 : Int32} {x4 : Int32}
    (H : ((x3 ≤ (x4 : Int32) → TT gc d 75 q 56 [.ref a0, .int x1, .ref a2, .int x3, .int x4] [] h) ∧ (¬ x3 ≤ (x4 : Int32) → ((∃ vs4 : List Value, at_ h a0 9 vs4) ∧ ∃ Q1 : PT, WP gc d 76 [.ref a0, .ref a2, .int x4] h Q1 ∧ ∀ (r2 : Option Value) (h3 : AH), Q1 r2 h3 → r2 = none ∧ TT gc d 75 q 37 [.ref a0, .int x1, .ref a2, .int x3, .int (x4 + 1)] [] h3)))) : TT gc d 75 q 37 [.ref a0, .int x1, .ref a2, .int x3, .int x4] [] h := Tf_fold H
theorem B75_26 {gc : Nat → Nat} {d : Nat} {q : PT} {h : AH} {a0 : Nat} {x1 : Int32} {a2 : Nat}
    (H : (∃ (vs1 : List Value) (b2 : Nat), at_ h a2 2 vs1 ∧ vs1[4]? = some (.ref b2) ∧ ((∃ vs6 : List Value, at_ h b2 10 vs6) ∧ ∃ Q3 : PT, WP gc d 17 [.ref b2] h Q3 ∧ ∀ (r4 : Option Value) (h5 : AH), Q3 r4 h5 → ∃ z7 : Int32, r4 = some (.int z7) ∧ TT gc d 75 q 37 [.ref a0, .int x1, .ref a2, .int z7, .int 0] [] h5))) : TT gc d 75 q 26 [.ref a0, .int x1, .ref a2, .retAddr 0, .retAddr 0] [] h := Tf_fold H
theorem B75_9 {gc : Nat → Nat} {d : Nat} {q : PT} {h : AH} {a0 : Nat} {x1 : Int32}
    (H : (∃ (vs1 : List Value) (b2 : Nat), at_ h a0 9 vs1 ∧ vs1[2]? = some (.ref b2) ∧ (∃ (t3 : Nat) (vs4 : List Value) (b5 : Nat), at_ h b2 t3 vs4 ∧ isRA t3 = true ∧ ¬ (x1 : Int32) < 0 ∧ vs4[(x1 : Int32).toNatClampNeg]? = some (.ref b5) ∧ (∃ (vs6 : List Value) (z7 : Int32), at_ h b5 2 vs6 ∧ vs6[1]? = some (.int z7) ∧ ((¬ (z7 : Int32) = 0 → TT gc d 75 q 26 [.ref a0, .int x1, .ref b5, .retAddr 0, .retAddr 0] [] h) ∧ ((z7 : Int32) = 0 → q (some (.int ((-3)))) h)))))) : TT gc d 75 q 9 [.ref a0, .int x1, .retAddr 0, .retAddr 0, .retAddr 0] [] h := Tf_fold H
theorem M75 {gc : Nat → Nat} {d : Nat} {q : PT} {h : AH} {a0 : Nat} {x1 : Int32}
    (H : (∃ Q1 : PT, WP gc d 40 [.int x1] h Q1 ∧ ∀ (r2 : Option Value) (h3 : AH), Q1 r2 h3 → ∃ z4 : Int32, r2 = some (.int z4) ∧ ((¬ (z4 : Int32) = 0 → TT gc d 75 q 9 [.ref a0, .int x1, .retAddr 0, .retAddr 0, .retAddr 0] [] h3) ∧ ((z4 : Int32) = 0 → q (some (.int ((-1)))) h3)))) : WP gc (d + 1) 75 [.ref a0, .int x1] h q := ⟨q, fun _ _ z => z, Tf_fold H⟩
-- QueueBroker.doDeed(LQueueBroker$Channel;I)V
theorem B76_55 {gc : Nat → Nat} {d : Nat} {q : PT} {h : AH} {a0 : Nat} {a1 : Nat} {x2 : Int32} {a3 : Nat}
    (H : q none h) : TT gc d 76 q 55 [.ref a0, .ref a1, .int x2, .ref a3] [] h := Tf_fold H
theorem B76_32 {gc : Nat → Nat} {d : Nat} {q : PT} {h : AH} {a0 : Nat} {a1 : Nat} {x2 : Int32} {a3 : Nat}
    (H : (∃ (vs1 : List Value) (z2 : Int32), at_ h a3 5 vs1 ∧ vs1[0]? = some (.int z2) ∧ ((∃ vs6 : List Value, at_ h a0 9 vs6) ∧ ∃ Q3 : PT, WP gc d 11 [.ref a0, .int z2] h Q3 ∧ ∀ (r4 : Option Value) (h5 : AH), Q3 r4 h5 → ∃ z7 : Int32, r4 = some (.int z7) ∧ (((z7 : Int32) = 0 → TT gc d 76 q 55 [.ref a0, .ref a1, .int x2, .ref a3] [] h5) ∧ (¬ (z7 : Int32) = 0 → (∃ (vs8 : List Value) (z9 : Int32), at_ h5 a3 5 vs8 ∧ vs8[0]? = some (.int z9) ∧ ((∃ vs16 : List Value, at_ h5 a3 5 vs16 ∧ vs16[1]? = some .null ∧ ((∃ vs20 : List Value, at_ h5 a0 9 vs20) ∧ ∃ Q17 : PT, WP gc d 48 [.ref a0, .int z9, .null] h5 Q17 ∧ ∀ (r18 : Option Value) (h19 : AH), Q17 r18 h19 → r18 = none ∧ TT gc d 76 q 55 [.ref a0, .ref a1, .int x2, .ref a3] [] h19)) ∨ (∃ (vs10 : List Value) (b11 : Nat), at_ h5 a3 5 vs10 ∧ vs10[1]? = some (.ref b11) ∧ ((∃ vs15 : List Value, at_ h5 a0 9 vs15) ∧ ∃ Q12 : PT, WP gc d 48 [.ref a0, .int z9, .ref b11] h5 Q12 ∧ ∀ (r13 : Option Value) (h14 : AH), Q12 r13 h14 → r13 = none ∧ TT gc d 76 q 55 [.ref a0, .ref a1, .int x2, .ref a3] [] h14))))))))) : TT gc d 76 q 32 [.ref a0, .ref a1, .int x2, .ref a3] [] h := Tf_fold H
theorem M76 {gc : Nat → Nat} {d : Nat} {q : PT} {h : AH} {a0 : Nat} {a1 : Nat} {x2 : Int32}
    (H : (∃ (vs1 : List Value) (b2 : Nat), at_ h a1 2 vs1 ∧ vs1[4]? = some (.ref b2) ∧ ((∃ vs6 : List Value, at_ h b2 10 vs6) ∧ ∃ Q3 : PT, WP gc d 18 [.ref b2, .int x2] h Q3 ∧ ∀ (r4 : Option Value) (h5 : AH), Q3 r4 h5 → ∃ b7 : Nat, r4 = some (.ref b7) ∧ (∃ vs8 : List Value, at_ h5 b7 5 vs8 ∧ ((∃ vs11 : List Value, at_ h5 b7 5 vs11 ∧ vs11[1]? = some .null ∧ (∃ (vs12 : List Value) (z13 : Int32), at_ h5 b7 5 vs12 ∧ vs12[2]? = some (.int z13) ∧ ((∃ vs17 : List Value, at_ h5 a0 9 vs17) ∧ ∃ Q14 : PT, WP gc d 70 [.ref a0, .ref a1, .int x2, .int z13] h5 Q14 ∧ ∀ (r15 : Option Value) (h16 : AH), Q14 r15 h16 → r15 = none ∧ TT gc d 76 q 55 [.ref a0, .ref a1, .int x2, .ref b7] [] h16))) ∨ (∃ (vs9 : List Value) (b10 : Nat), at_ h5 b7 5 vs9 ∧ vs9[1]? = some (.ref b10) ∧ TT gc d 76 q 32 [.ref a0, .ref a1, .int x2, .ref b7] [] h5)))))) : WP gc (d + 1) 76 [.ref a0, .ref a1, .int x2] h q := ⟨q, fun _ _ z => z, Tf_fold H⟩
-- QueueBroker$Channel.forgetDeeds()V
theorem B77_41 {gc : Nat → Nat} {d : Nat} {q : PT} {h : AH} {a0 : Nat} {x1 : Int32}
    (H : q none h) : TT gc d 77 q 41 [.ref a0, .int x1] [] h := Tf_fold H
theorem B77_9 {gc : Nat → Nat} {d : Nat} {q : PT} {h : AH} {a0 : Nat} {x1 : Int32}
    (H : (∃ (vs1 : List Value) (b2 : Nat), at_ h a0 2 vs1 ∧ vs1[3]? = some (.ref b2) ∧ ((∃ vs6 : List Value, at_ h b2 10 vs6) ∧ ∃ Q3 : PT, WP gc d 17 [.ref b2] h Q3 ∧ ∀ (r4 : Option Value) (h5 : AH), Q3 r4 h5 → ∃ z7 : Int32, r4 = some (.int z7) ∧ ((z7 ≤ (x1 : Int32) → TT gc d 77 q 41 [.ref a0, .int x1] [] h5) ∧ (¬ z7 ≤ (x1 : Int32) → (∃ (vs8 : List Value) (b9 : Nat), at_ h5 a0 2 vs8 ∧ vs8[3]? = some (.ref b9) ∧ ((∃ vs13 : List Value, at_ h5 b9 10 vs13) ∧ ∃ Q10 : PT, WP gc d 18 [.ref b9, .int x1] h5 Q10 ∧ ∀ (r11 : Option Value) (h12 : AH), Q10 r11 h12 → ∃ b14 : Nat, r11 = some (.ref b14) ∧ (∃ vs15 : List Value, at_ h12 b14 4 vs15 ∧ (∃ vs16 : List Value, at_ h12 b14 4 vs16 ∧ 5 < vs16.length ∧ True ∧ ∀ h17 : AH, h17 = ah_set h12 b14 (4, vs16.set 5 (.int ((-1)))) → TT gc d 77 q 9 [.ref a0, .int (x1 + 1)] [] h17))))))))) : TT gc d 77 q 9 [.ref a0, .int x1] [] h := Tf_fold H
theorem M77 {gc : Nat → Nat} {d : Nat} {q : PT} {h : AH} {a0 : Nat}
    (H : (∃ (vs1 : List Value) (b2 : Nat), at_ h a0 2 vs1 ∧ vs1[4]? = some (.ref b2) ∧ ((∃ vs6 : List Value, at_ h b2 10 vs6) ∧ ∃ Q3 : PT, WP gc d 38 [.ref b2] h Q3 ∧ ∀ (r4 : Option Value) (h5 : AH), Q3 r4 h5 → r4 = none ∧ TT gc d 77 q 9 [.ref a0, .int 0] [] h5))) : WP gc (d + 1) 77 [.ref a0] h q := ⟨q, fun _ _ z => z, Tf_fold H⟩
-- QueueBroker.rollback(I)I
theorem B78_24 {gc : Nat → Nat} {d : Nat} {q : PT} {h : AH} {a0 : Nat} {x1 : Int32}
    (H : (∃ (vs1 : List Value) (b2 : Nat), at_ h a0 9 vs1 ∧ vs1[2]? = some (.ref b2) ∧ (∃ (t3 : Nat) (vs4 : List Value) (b5 : Nat), at_ h b2 t3 vs4 ∧ isRA t3 = true ∧ ¬ (x1 : Int32) < 0 ∧ vs4[(x1 : Int32).toNatClampNeg]? = some (.ref b5) ∧ (∃ (vs6 : List Value) (b7 : Nat), at_ h b5 2 vs6 ∧ vs6[4]? = some (.ref b7) ∧ ((∃ vs11 : List Value, at_ h b7 10 vs11) ∧ ∃ Q8 : PT, WP gc d 17 [.ref b7] h Q8 ∧ ∀ (r9 : Option Value) (h10 : AH), Q8 r9 h10 → ∃ z12 : Int32, r9 = some (.int z12) ∧ (∃ (vs13 : List Value) (b14 : Nat), at_ h10 a0 9 vs13 ∧ vs13[2]? = some (.ref b14) ∧ (∃ (t15 : Nat) (vs16 : List Value) (b17 : Nat), at_ h10 b14 t15 vs16 ∧ isRA t15 = true ∧ ¬ (x1 : Int32) < 0 ∧ vs16[(x1 : Int32).toNatClampNeg]? = some (.ref b17) ∧ ((∃ vs21 : List Value, at_ h10 b17 2 vs21) ∧ ∃ Q18 : PT, WP gc d 77 [.ref b17] h10 Q18 ∧ ∀ (r19 : Option Value) (h20 : AH), Q18 r19 h20 → r19 = none ∧ q (some (.int z12)) h20)))))))) : TT gc d 78 q 24 [.ref a0, .int x1, .retAddr 0] [] h := Tf_fold H
theorem B78_9 {gc : Nat → Nat} {d : Nat} {q : PT} {h : AH} {a0 : Nat} {x1 : Int32}
    (H : (∃ (vs1 : List Value) (b2 : Nat), at_ h a0 9 vs1 ∧ vs1[2]? = some (.ref b2) ∧ (∃ (t3 : Nat) (vs4 : List Value) (b5 : Nat), at_ h b2 t3 vs4 ∧ isRA t3 = true ∧ ¬ (x1 : Int32) < 0 ∧ vs4[(x1 : Int32).toNatClampNeg]? = some (.ref b5) ∧ (∃ (vs6 : List Value) (z7 : Int32), at_ h b5 2 vs6 ∧ vs6[1]? = some (.int z7) ∧ ((¬ (z7 : Int32) = 0 → TT gc d 78 q 24 [.ref a0, .int x1, .retAddr 0] [] h) ∧ ((z7 : Int32) = 0 → q (some (.int ((-3)))) h)))))) : TT gc d 78 q 9 [.ref a0, .int x1, .retAddr 0] [] h := Tf_fold H
theorem M78 {gc : Nat → Nat} {d : Nat} {q : PT} {h : AH} {a0 : Nat} {x1 : Int32}
    (H : (∃ Q1 : PT, WP gc d 40 [.int x1] h Q1 ∧ ∀ (r2 : Option Value) (h3 : AH), Q1 r2 h3 → ∃ z4 : Int32, r2 = some (.int z4) ∧ ((¬ (z4 : Int32) = 0 → TT gc d 78 q 9 [.ref a0, .int x1, .retAddr 0] [] h3) ∧ ((z4 : Int32) = 0 → q (some (.int ((-1)))) h3)))) : WP gc (d + 1) 78 [.ref a0, .int x1] h q := ⟨q, fun _ _ z => z, Tf_fold H⟩
-- QueueBroker.close(I)I
theorem B79_9 {gc : Nat → Nat} {d : Nat} {q : PT} {h : AH} {a0 : Nat} {x1 : Int32}
    (H : ((∃ vs4 : List Value, at_ h a0 9 vs4) ∧ ∃ Q1 : PT, WP gc d 80 [.ref a0, .int x1] h Q1 ∧ ∀ (r2 : Option Value) (h3 : AH), Q1 r2 h3 → r2 = none ∧ q (some (.int 0)) h3)) : TT gc d 79 q 9 [.ref a0, .int x1] [] h := Tf_fold H
theorem M79 {gc : Nat → Nat} {d : Nat} {q : PT} {h : AH} {a0 : Nat} {x1 : Int32}
    (H : (∃ Q1 : PT, WP gc d 40 [.int x1] h Q1 ∧ ∀ (r2 : Option Value) (h3 : AH), Q1 r2 h3 → ∃ z4 : Int32, r2 = some (.int z4) ∧ ((¬ (z4 : Int32) = 0 → TT gc d 79 q 9 [.ref a0, .int x1] [] h3) ∧ ((z4 : Int32) = 0 → q (some (.int ((-1)))) h3)))) : WP gc (d + 1) 79 [.ref a0, .int x1] h q := ⟨q, fun _ _ z => z, Tf_fold H⟩
-- QueueBroker.closeChannel(I)V
theorem B80_66 {gc : Nat → Nat} {d : Nat} {q : PT} {h : AH} {a0 : Nat} {x1 : Int32} {a2 : Nat} {x3 : Int32}
    (H : ((∃ vs4 : List Value, at_ h a2 2 vs4) ∧ ∃ Q1 : PT, WP gc d 81 [.ref a2] h Q1 ∧ ∀ (r2 : Option Value) (h3 : AH), Q1 r2 h3 → r2 = none ∧ q none h3)) : TT gc d 80 q 66 [.ref a0, .int x1, .ref a2, .int x3] [] h := Tf_fold H
theorem B80_43 {gc : Nat → Nat} {d : Nat} {q : PT} {h : AH} {a0 : Nat} {x1 : Int32} {a2 : Nat} {x3 : Int32}
    (H : ((6 ≤ (x3 : Int32) → TT gc d 80 q 66 [.ref a0, .int x1, .ref a2, .int x3] [] h) ∧ (¬ 6 ≤ (x3 : Int32) → (∃ (vs1 : List Value) (b2 : Nat), at_ h a0 9 vs1 ∧ vs1[1]? = some (.ref b2) ∧ (∃ (t3 : Nat) (vs4 : List Value) (b5 : Nat), at_ h b2 t3 vs4 ∧ isRA t3 = true ∧ ¬ (x3 : Int32) < 0 ∧ vs4[(x3 : Int32).toNatClampNeg]? = some (.ref b5) ∧ ((∃ vs9 : List Value, at_ h b5 8 vs9) ∧ ∃ Q6 : PT, WP gc d 61 [.ref b5, .int x1] h Q6 ∧ ∀ (r7 : Option Value) (h8 : AH), Q6 r7 h8 → ∃ z10 : Int32, r7 = some (.int z10) ∧ TT gc d 80 q 43 [.ref a0, .int x1, .ref a2, .int (x3 + 1)] [] h8)))))) : TT gc d 80 q 43 [.ref a0, .int x1, .ref a2, .int x3] [] h := Tf_fold H
theorem B80_41 {gc : Nat → Nat} {d : Nat} {q : PT} {h : AH} {a0 : Nat} {x1 : Int32} {a2 : Nat} {x3 : Int32}
    (H : TT gc d 80 q 43 [.ref a0, .int x1, .ref a2, .int 0] [] h) : TT gc d 80 q 41 [.ref a0, .int x1, .ref a2, .int x3] [] h := Tf_fold H
theorem B80_9 {gc : Nat → Nat} {d : Nat} {q : PT} {h : AH} {a0 : Nat} {x1 : Int32} {a2 : Nat} {x3 : Int32}
    (H : (∃ (vs1 : List Value) (b2 : Nat), at_ h a2 2 vs1 ∧ vs1[3]? = some (.ref b2) ∧ ((∃ vs6 : List Value, at_ h b2 10 vs6) ∧ ∃ Q3 : PT, WP gc d 17 [.ref b2] h Q3 ∧ ∀ (r4 : Option Value) (h5 : AH), Q3 r4 h5 → ∃ z7 : Int32, r4 = some (.int z7) ∧ ((z7 ≤ (x3 : Int32) → TT gc d 80 q 41 [.ref a0, .int x1, .ref a2, .int x3] [] h5) ∧ (¬ z7 ≤ (x3 : Int32) → (∃ (vs8 : List Value) (b9 : Nat), at_ h5 a2 2 vs8 ∧ vs8[3]? = some (.ref b9) ∧ ((∃ vs13 : List Value, at_ h5 b9 10 vs13) ∧ ∃ Q10 : PT, WP gc d 18 [.ref b9, .int x3] h5 Q10 ∧ ∀ (r11 : Option Value) (h12 : AH), Q10 r11 h12 → ∃ b14 : Nat, r11 = some (.ref b14) ∧ (∃ vs15 : List Value, at_ h12 b14 4 vs15 ∧ ((∃ vs19 : List Value, at_ h12 a0 9 vs19) ∧ ∃ Q16 : PT, WP gc d 72 [.ref a0, .ref b14] h12 Q16 ∧ ∀ (r17 : Option Value) (h18 : AH), Q16 r17 h18 → r17 = none ∧ TT gc d 80 q 9 [.ref a0, .int x1, .ref a2, .int (x3 + 1)] [] h18))))))))) : TT gc d 80 q 9 [.ref a0, .int x1, .ref a2, .int x3] [] h := Tf_fold H
theorem M80 {gc : Nat → Nat} {d : Nat} {q : PT} {h : AH} {a0 : Nat} {x1 : Int32}
    (H : (∃ (vs1 : List Value) (b2 : Nat), at_ h a0 9 vs1 ∧ vs1[2]? = some (.ref b2) ∧ (∃ (t3 : Nat) (vs4 : List Value) (b5 : Nat), at_ h b2 t3 vs4 ∧ isRA t3 = true ∧ ¬ (x1 : Int32) < 0 ∧ vs4[(x1 : Int32).toNatClampNeg]? = some (.ref b5) ∧ TT gc d 80 q 9 [.ref a0, .int x1, .ref b5, .int 0] [] h))) : WP gc (d + 1) 80 [.ref a0, .int x1] h q := ⟨q, fun _ _ z => z, Tf_fold H⟩
-- QueueBroker$Channel.reset()V
theorem M81 {gc : Nat → Nat} {d : Nat} {q : PT} {h : AH} {a0 : Nat}
    (H : (∃ vs1 : List Value, at_ h a0 2 vs1 ∧ 0 < vs1.length ∧ True ∧ ∀ h2 : AH, h2 = ah_set h a0 (2, vs1.set 0 (.int 12)) → (∃ vs3 : List Value, at_ h2 a0 2 vs3 ∧ 1 < vs3.length ∧ ((0 : Int32) = 0 ∨ (0 : Int32) = 1) ∧ ∀ h4 : AH, h4 = ah_set h2 a0 (2, vs3.set 1 (.int 0)) → (∃ vs5 : List Value, at_ h4 a0 2 vs5 ∧ 2 < vs5.length ∧ True ∧ ∀ h6 : AH, h6 = ah_set h4 a0 (2, vs5.set 2 (.int 0)) → (∃ (vs7 : List Value) (b8 : Nat), at_ h6 a0 2 vs7 ∧ vs7[3]? = some (.ref b8) ∧ ((∃ vs12 : List Value, at_ h6 b8 10 vs12) ∧ ∃ Q9 : PT, WP gc d 38 [.ref b8] h6 Q9 ∧ ∀ (r10 : Option Value) (h11 : AH), Q9 r10 h11 → r10 = none ∧ (∃ (vs13 : List Value) (b14 : Nat), at_ h11 a0 2 vs13 ∧ vs13[4]? = some (.ref b14) ∧ ((∃ vs18 : List Value, at_ h11 b14 10 vs18) ∧ ∃ Q15 : PT, WP gc d 38 [.ref b14] h11 Q15 ∧ ∀ (r16 : Option Value) (h17 : AH), Q15 r16 h17 → r16 = none ∧ q none h17)))))))) : WP gc (d + 1) 81 [.ref a0] h q := ⟨q, fun _ _ z => z, Tf_fold H⟩
-- QueueBroker.crash()I
theorem B82_106 {gc : Nat → Nat} {d : Nat} {q : PT} {h : AH} {a0 : Nat} {x1 : Int32} {x2 : Int32}
    (H : q (some (.int x1)) h) : TT gc d 82 q 106 [.ref a0, .int x1, .int x2] [] h := Tf_fold H
theorem B82_76 {gc : Nat → Nat} {d : Nat} {q : PT} {h : AH} {a0 : Nat} {x1 : Int32} {x2 : Int32}
    (H : (∃ (vs1 : List Value) (b2 : Nat), at_ h a0 9 vs1 ∧ vs1[1]? = some (.ref b2) ∧ (∃ (t3 : Nat) (vs4 : List Value) (b5 : Nat), at_ h b2 t3 vs4 ∧ isRA t3 = true ∧ ¬ (x2 : Int32) < 0 ∧ vs4[(x2 : Int32).toNatClampNeg]? = some (.ref b5) ∧ ((∃ vs9 : List Value, at_ h b5 8 vs9) ∧ ∃ Q6 : PT, WP gc d 84 [.ref b5] h Q6 ∧ ∀ (r7 : Option Value) (h8 : AH), Q6 r7 h8 → r7 = none ∧ (∃ (vs10 : List Value) (b11 : Nat), at_ h8 a0 9 vs10 ∧ vs10[1]? = some (.ref b11) ∧ (∃ (t12 : Nat) (vs13 : List Value) (b14 : Nat), at_ h8 b11 t12 vs13 ∧ isRA t12 = true ∧ ¬ (x2 : Int32) < 0 ∧ vs13[(x2 : Int32).toNatClampNeg]? = some (.ref b14) ∧ (∃ (vs15 : List Value) (b16 : Nat), at_ h8 b14 8 vs15 ∧ vs15[4]? = some (.ref b16) ∧ ((∃ vs20 : List Value, at_ h8 b16 10 vs20) ∧ ∃ Q17 : PT, WP gc d 17 [.ref b16] h8 Q17 ∧ ∀ (r18 : Option Value) (h19 : AH), Q17 r18 h19 → ∃ z21 : Int32, r18 = some (.int z21) ∧ TT gc d 82 q 52 [.ref a0, .int (x1 + z21), .int (x2 + 1)] [] h19)))))))) : TT gc d 82 q 76 [.ref a0, .int x1, .int x2] [] h := Tf_fold H
theorem B82_52 {gc : Nat → Nat} {d : Nat} {q : PT} {h : AH} {a0 : Nat} {x1 : Int32} {x2 : Int32}
    (H : ((6 ≤ (x2 : Int32) → TT gc d 82 q 106 [.ref a0, .int x1, .int x2] [] h) ∧ (¬ 6 ≤ (x2 : Int32) → (∃ (vs1 : List Value) (b2 : Nat), at_ h a0 9 vs1 ∧ vs1[1]? = some (.ref b2) ∧ (∃ (t3 : Nat) (vs4 : List Value) (b5 : Nat), at_ h b2 t3 vs4 ∧ isRA t3 = true ∧ ¬ (x2 : Int32) < 0 ∧ vs4[(x2 : Int32).toNatClampNeg]? = some (.ref b5) ∧ (∃ (vs6 : List Value) (z7 : Int32), at_ h b5 8 vs6 ∧ vs6[3]? = some (.int z7) ∧ ((¬ (z7 : Int32) = 0 → TT gc d 82 q 76 [.ref a0, .int x1, .int x2] [] h) ∧ ((z7 : Int32) = 0 → ((∃ vs11 : List Value, at_ h a0 9 vs11) ∧ ∃ Q8 : PT, WP gc d 35 [.ref a0, .int x2] h Q8 ∧ ∀ (r9 : Option Value) (h10 : AH), Q8 r9 h10 → ∃ z12 : Int32, r9 = some (.int z12) ∧ TT gc d 82 q 76 [.ref a0, .int x1, .int x2] [] h10))))))))) : TT gc d 82 q 52 [.ref a0, .int x1, .int x2] [] h := Tf_fold H
theorem B82_48 {gc : Nat → Nat} {d : Nat} {q : PT} {h : AH} {a0 : Nat} {x1 : Int32}
    (H : TT gc d 82 q 52 [.ref a0, .int 0, .int 0] [] h) : TT gc d 82 q 48 [.ref a0, .int x1, .retAddr 0] [] h := Tf_fold H
theorem B82_42 {gc : Nat → Nat} {d : Nat} {q : PT} {h : AH} {a0 : Nat} {x1 : Int32}
    (H : TT gc d 82 q 20 [.ref a0, .int (x1 + 1), .retAddr 0] [] h) : TT gc d 82 q 42 [.ref a0, .int x1, .retAddr 0] [] h := Tf_fold H
theorem B82_20 {gc : Nat → Nat} {d : Nat} {q : PT} {h : AH} {a0 : Nat} {x1 : Int32}
    (H : ((5 ≤ (x1 : Int32) → TT gc d 82 q 48 [.ref a0, .int x1, .retAddr 0] [] h) ∧ (¬ 5 ≤ (x1 : Int32) → (∃ (vs1 : List Value) (b2 : Nat), at_ h a0 9 vs1 ∧ vs1[0]? = some (.ref b2) ∧ (∃ (t3 : Nat) (vs4 : List Value) (b5 : Nat), at_ h b2 t3 vs4 ∧ isRA t3 = true ∧ ¬ (x1 : Int32) < 0 ∧ vs4[(x1 : Int32).toNatClampNeg]? = some (.ref b5) ∧ (∃ (vs6 : List Value) (z7 : Int32), at_ h b5 6 vs6 ∧ vs6[2]? = some (.int z7) ∧ ((¬ (z7 : Int32) = 0 → TT gc d 82 q 42 [.ref a0, .int x1, .retAddr 0] [] h) ∧ ((z7 : Int32) = 0 → ((∃ vs11 : List Value, at_ h a0 9 vs11) ∧ ∃ Q8 : PT, WP gc d 83 [.ref a0, .int x1] h Q8 ∧ ∀ (r9 : Option Value) (h10 : AH), Q8 r9 h10 → r9 = none ∧ TT gc d 82 q 42 [.ref a0, .int x1, .retAddr 0] [] h10))))))))) : TT gc d 82 q 20 [.ref a0, .int x1, .retAddr 0] [] h := Tf_fold H
theorem B82_18 {gc : Nat → Nat} {d : Nat} {q : PT} {h : AH} {a0 : Nat} {x1 : Int32}
    (H : TT gc d 82 q 20 [.ref a0, .int 0, .retAddr 0] [] h) : TT gc d 82 q 18 [.ref a0, .int x1, .retAddr 0] [] h := Tf_fold H
theorem B82_2 {gc : Nat → Nat} {d : Nat} {q : PT} {h : AH} {a0 : Nat} {x1 : Int32}
    (H : ((4 ≤ (x1 : Int32) → TT gc d 82 q 18 [.ref a0, .int x1, .retAddr 0] [] h) ∧ (¬ 4 ≤ (x1 : Int32) → ((∃ vs4 : List Value, at_ h a0 9 vs4) ∧ ∃ Q1 : PT, WP gc d 80 [.ref a0, .int x1] h Q1 ∧ ∀ (r2 : Option Value) (h3 : AH), Q1 r2 h3 → r2 = none ∧ TT gc d 82 q 2 [.ref a0, .int (x1 + 1), .retAddr 0] [] h3)))) : TT gc d 82 q 2 [.ref a0, .int x1, .retAddr 0] [] h := Tf_fold H
theorem M82 {gc : Nat → Nat} {d : Nat} {q : PT} {h : AH} {a0 : Nat}
    (H : TT gc d 82 q 2 [.ref a0, .int 0, .retAddr 0] [] h) : WP gc (d + 1) 82 [.ref a0] h q := ⟨q, fun _ _ z => z, Tf_fold H⟩
-- QueueBroker.forgetExchange(I)V
theorem B83_57 {gc : Nat → Nat} {d : Nat} {q : PT} {h : AH} {a0 : Nat} {x1 : Int32} {x2 : Int32}
    (H : q none h) : TT gc d 83 q 57 [.ref a0, .int x1, .int x2] [] h := Tf_fold H
theorem B83_51 {gc : Nat → Nat} {d : Nat} {q : PT} {h : AH} {a0 : Nat} {x1 : Int32} {x2 : Int32}
    (H : TT gc d 83 q 20 [.ref a0, .int x1, .int (x2 + (-1))] [] h) : TT gc d 83 q 51 [.ref a0, .int x1, .int x2] [] h := Tf_fold H
theorem B83_20 {gc : Nat → Nat} {d : Nat} {q : PT} {h : AH} {a0 : Nat} {x1 : Int32} {x2 : Int32}
    (H : (((x2 : Int32) < 0 → TT gc d 83 q 57 [.ref a0, .int x1, .int x2] [] h) ∧ (¬ (x2 : Int32) < 0 → (∃ (vs1 : List Value) (b2 : Nat), at_ h a0 9 vs1 ∧ vs1[3]? = some (.ref b2) ∧ ((∃ vs6 : List Value, at_ h b2 10 vs6) ∧ ∃ Q3 : PT, WP gc d 18 [.ref b2, .int x2] h Q3 ∧ ∀ (r4 : Option Value) (h5 : AH), Q3 r4 h5 → ∃ b7 : Nat, r4 = some (.ref b7) ∧ (∃ vs8 : List Value, at_ h5 b7 1 vs8 ∧ (∃ (vs9 : List Value) (z10 : Int32), at_ h5 b7 1 vs9 ∧ vs9[0]? = some (.int z10) ∧ ((¬ (z10 : Int32) = x1 → TT gc d 83 q 51 [.ref a0, .int x1, .int x2] [] h5) ∧ ((z10 : Int32) = x1 → (∃ (vs11 : List Value) (b12 : Nat), at_ h5 a0 9 vs11 ∧ vs11[3]? = some (.ref b12) ∧ ((∃ vs16 : List Value, at_ h5 b12 10 vs16) ∧ ∃ Q13 : PT, WP gc d 32 [.ref b12, .int x2] h5 Q13 ∧ ∀ (r14 : Option Value) (h15 : AH), Q13 r14 h15 → ∃ b17 : Nat, r14 = some (.ref b17) ∧ TT gc d 83 q 51 [.ref a0, .int x1, .int x2] [] h15))))))))))) : TT gc d 83 q 20 [.ref a0, .int x1, .int x2] [] h := Tf_fold H
theorem M83 {gc : Nat → Nat} {d : Nat} {q : PT} {h : AH} {a0 : Nat} {x1 : Int32}
    (H : (∃ (vs1 : List Value) (b2 : Nat), at_ h a0 9 vs1 ∧ vs1[0]? = some (.ref b2) ∧ (∃ (t3 : Nat) (vs4 : List Value) (b5 : Nat), at_ h b2 t3 vs4 ∧ isRA t3 = true ∧ ¬ (x1 : Int32) < 0 ∧ vs4[(x1 : Int32).toNatClampNeg]? = some (.ref b5) ∧ (∃ vs6 : List Value, at_ h b5 6 vs6 ∧ 0 < vs6.length ∧ ((0 : Int32) = 0 ∨ (0 : Int32) = 1) ∧ ∀ h7 : AH, h7 = ah_set h b5 (6, vs6.set 0 (.int 0)) → (∃ (vs8 : List Value) (b9 : Nat), at_ h7 a0 9 vs8 ∧ vs8[3]? = some (.ref b9) ∧ ((∃ vs13 : List Value, at_ h7 b9 10 vs13) ∧ ∃ Q10 : PT, WP gc d 17 [.ref b9] h7 Q10 ∧ ∀ (r11 : Option Value) (h12 : AH), Q10 r11 h12 → ∃ z14 : Int32, r11 = some (.int z14) ∧ TT gc d 83 q 20 [.ref a0, .int x1, .int (z14 - 1)] [] h12)))))) : WP gc (d + 1) 83 [.ref a0, .int x1] h q := ⟨q, fun _ _ z => z, Tf_fold H⟩
-- QueueBroker$Queue.keepPersistent()V
theorem B84_49 {gc : Nat → Nat} {d : Nat} {q : PT} {h : AH} {a0 : Nat} {x1 : Int32}
    (H : q none h) : TT gc d 84 q 49 [.ref a0, .int x1] [] h := Tf_fold H
theorem B84_43 {gc : Nat → Nat} {d : Nat} {q : PT} {h : AH} {a0 : Nat} {x1 : Int32}
    (H : TT gc d 84 q 10 [.ref a0, .int (x1 + (-1))] [] h) : TT gc d 84 q 43 [.ref a0, .int x1] [] h := Tf_fold H
theorem B84_10 {gc : Nat → Nat} {d : Nat} {q : PT} {h : AH} {a0 : Nat} {x1 : Int32}
    (H : (((x1 : Int32) < 0 → TT gc d 84 q 49 [.ref a0, .int x1] [] h) ∧ (¬ (x1 : Int32) < 0 → (∃ (vs1 : List Value) (b2 : Nat), at_ h a0 8 vs1 ∧ vs1[4]? = some (.ref b2) ∧ ((∃ vs6 : List Value, at_ h b2 10 vs6) ∧ ∃ Q3 : PT, WP gc d 18 [.ref b2, .int x1] h Q3 ∧ ∀ (r4 : Option Value) (h5 : AH), Q3 r4 h5 → ∃ b7 : Nat, r4 = some (.ref b7) ∧ (∃ vs8 : List Value, at_ h5 b7 4 vs8 ∧ (∃ (vs9 : List Value) (b10 : Nat), at_ h5 b7 4 vs9 ∧ vs9[0]? = some (.ref b10) ∧ (∃ (vs11 : List Value) (z12 : Int32), at_ h5 b10 7 vs11 ∧ vs11[3]? = some (.int z12) ∧ ((¬ (z12 : Int32) = 0 → TT gc d 84 q 43 [.ref a0, .int x1] [] h5) ∧ ((z12 : Int32) = 0 → (∃ (vs13 : List Value) (b14 : Nat), at_ h5 a0 8 vs13 ∧ vs13[4]? = some (.ref b14) ∧ ((∃ vs18 : List Value, at_ h5 b14 10 vs18) ∧ ∃ Q15 : PT, WP gc d 32 [.ref b14, .int x1] h5 Q15 ∧ ∀ (r16 : Option Value) (h17 : AH), Q15 r16 h17 → ∃ b19 : Nat, r16 = some (.ref b19) ∧ TT gc d 84 q 43 [.ref a0, .int x1] [] h17)))))))))))) : TT gc d 84 q 10 [.ref a0, .int x1] [] h := Tf_fold H
theorem M84 {gc : Nat → Nat} {d : Nat} {q : PT} {h : AH} {a0 : Nat}
    (H : (∃ (vs1 : List Value) (b2 : Nat), at_ h a0 8 vs1 ∧ vs1[4]? = some (.ref b2) ∧ ((∃ vs6 : List Value, at_ h b2 10 vs6) ∧ ∃ Q3 : PT, WP gc d 17 [.ref b2] h Q3 ∧ ∀ (r4 : Option Value) (h5 : AH), Q3 r4 h5 → ∃ z7 : Int32, r4 = some (.int z7) ∧ TT gc d 84 q 10 [.ref a0, .int (z7 - 1)] [] h5))) : WP gc (d + 1) 84 [.ref a0] h q := ⟨q, fun _ _ z => z, Tf_fold H⟩
-- QueueBroker.ready(III)J
theorem B85_35 {gc : Nat → Nat} {d : Nat} {q : PT} {h : AH} {a0 : Nat} {x1 : Int32} {x2 : Int32} {x3 : Int32}
    (H : (∃ (vs1 : List Value) (b2 : Nat), at_ h a0 9 vs1 ∧ vs1[1]? = some (.ref b2) ∧ (∃ (t3 : Nat) (vs4 : List Value) (b5 : Nat), at_ h b2 t3 vs4 ∧ isRA t3 = true ∧ ¬ (x1 : Int32) < 0 ∧ vs4[(x1 : Int32).toNatClampNeg]? = some (.ref b5) ∧ (∃ (vs6 : List Value) (b7 : Nat), at_ h b5 8 vs6 ∧ vs6[4]? = some (.ref b7) ∧ ((∃ vs11 : List Value, at_ h b7 10 vs11) ∧ ∃ Q8 : PT, WP gc d 18 [.ref b7, .int x2] h Q8 ∧ ∀ (r9 : Option Value) (h10 : AH), Q8 r9 h10 → ∃ b12 : Nat, r9 = some (.ref b12) ∧ (∃ vs13 : List Value, at_ h10 b12 4 vs13 ∧ (∃ Q14 : PT, WP gc d 86 [.ref b12, .int x3] h10 Q14 ∧ ∀ (r15 : Option Value) (h16 : AH), Q14 r15 h16 → ∃ y17 : Int64, r15 = some (.long y17) ∧ q (some (.long y17)) h16))))))) : TT gc d 85 q 35 [.ref a0, .int x1, .int x2, .int x3] [] h := Tf_fold H
theorem B85_31 {gc : Nat → Nat} {d : Nat} {q : PT} {h : AH} {a0 : Nat} {x1 : Int32} {x2 : Int32} {x3 : Int32}
    (H : q (some (.long (Int64.ofNat 18446743073709551616))) h) : TT gc d 85 q 31 [.ref a0, .int x1, .int x2, .int x3] [] h := Tf_fold H
theorem M85 {gc : Nat → Nat} {d : Nat} {q : PT} {h : AH} {a0 : Nat} {x1 : Int32} {x2 : Int32} {x3 : Int32}
    (H : (∃ Q1 : PT, WP gc d 8 [.int x1, .int 0, .int 5] h Q1 ∧ ∀ (r2 : Option Value) (h3 : AH), Q1 r2 h3 → ∃ z4 : Int32, r2 = some (.int z4) ∧ (((z4 : Int32) = 0 → TT gc d 85 q 31 [.ref a0, .int x1, .int x2, .int x3] [] h3) ∧ (¬ (z4 : Int32) = 0 → (∃ (vs5 : List Value) (b6 : Nat), at_ h3 a0 9 vs5 ∧ vs5[1]? = some (.ref b6) ∧ (∃ (t7 : Nat) (vs8 : List Value) (b9 : Nat), at_ h3 b6 t7 vs8 ∧ isRA t7 = true ∧ ¬ (x1 : Int32) < 0 ∧ vs8[(x1 : Int32).toNatClampNeg]? = some (.ref b9) ∧ (∃ (vs10 : List Value) (b11 : Nat), at_ h3 b9 8 vs10 ∧ vs10[4]? = some (.ref b11) ∧ ((∃ vs15 : List Value, at_ h3 b11 10 vs15) ∧ ∃ Q12 : PT, WP gc d 17 [.ref b11] h3 Q12 ∧ ∀ (r13 : Option Value) (h14 : AH), Q12 r13 h14 → ∃ z16 : Int32, r13 = some (.int z16) ∧ (∃ Q17 : PT, WP gc d 8 [.int x2, .int 0, .int (z16 - 1)] h14 Q17 ∧ ∀ (r18 : Option Value) (h19 : AH), Q17 r18 h19 → ∃ z20 : Int32, r18 = some (.int z20) ∧ ((¬ (z20 : Int32) = 0 → TT gc d 85 q 35 [.ref a0, .int x1, .int x2, .int x3] [] h19) ∧ ((z20 : Int32) = 0 → TT gc d 85 q 31 [.ref a0, .int x1, .int x2, .int x3] [] h19))))))))))) : WP gc (d + 1) 85 [.ref a0, .int x1, .int x2, .int x3] h q := ⟨q, fun _ _ z => z, Tf_fold H⟩
-- QueueBroker.readyField(LQueueBroker$Copy;I)J
theorem B86_92 {gc : Nat → Nat} {d : Nat} {q : PT} {h : AH} {a0 : Nat} {x1 : Int32}
    (H : q (some (.long (Int64.ofNat 18446743073709551616))) h) : TT gc d 86 q 92 [.ref a0, .int x1] [] h := Tf_fold H
theorem B86_91 {gc : Nat → Nat} {d : Nat} {q : PT} {h : AH} {a0 : Nat} {x1 : Int32} {y0 : Int64}
    (H : q (some (.long y0)) h) : TT gc d 86 q 91 [.ref a0, .int x1] [.long y0] h := Tf_fold H
theorem B86_90 {gc : Nat → Nat} {d : Nat} {q : PT} {h : AH} {a0 : Nat} {x1 : Int32}
    (H : TT gc d 86 q 91 [.ref a0, .int x1] [.long 0] h) : TT gc d 86 q 90 [.ref a0, .int x1] [] h := Tf_fold H
theorem B86_76 {gc : Nat → Nat} {d : Nat} {q : PT} {h : AH} {a0 : Nat} {x1 : Int32}
    (H : (∃ (vs1 : List Value) (b2 : Nat), at_ h a0 4 vs1 ∧ vs1[0]? = some (.ref b2) ∧ (∃ (vs3 : List Value) (z4 : Int32), at_ h b2 7 vs3 ∧ vs3[3]? = some (.int z4) ∧ (((z4 : Int32) = 0 → TT gc d 86 q 90 [.ref a0, .int x1] [] h) ∧ (¬ (z4 : Int32) = 0 → TT gc d 86 q 91 [.ref a0, .int x1] [.long 1] h))))) : TT gc d 86 q 76 [.ref a0, .int x1] [] h := Tf_fold H
theorem B86_75 {gc : Nat → Nat} {d : Nat} {q : PT} {h : AH} {a0 : Nat} {x1 : Int32} {y0 : Int64}
    (H : q (some (.long y0)) h) : TT gc d 86 q 75 [.ref a0, .int x1] [.long y0] h := Tf_fold H
theorem B86_74 {gc : Nat → Nat} {d : Nat} {q : PT} {h : AH} {a0 : Nat} {x1 : Int32}
    (H : TT gc d 86 q 75 [.ref a0, .int x1] [.long 0] h) : TT gc d 86 q 74 [.ref a0, .int x1] [] h := Tf_fold H
theorem B86_63 {gc : Nat → Nat} {d : Nat} {q : PT} {h : AH} {a0 : Nat} {x1 : Int32}
    (H : (∃ (vs1 : List Value) (z2 : Int32), at_ h a0 4 vs1 ∧ vs1[3]? = some (.int z2) ∧ (((z2 : Int32) = 0 → TT gc d 86 q 74 [.ref a0, .int x1] [] h) ∧ (¬ (z2 : Int32) = 0 → TT gc d 86 q 75 [.ref a0, .int x1] [.long 1] h)))) : TT gc d 86 q 63 [.ref a0, .int x1] [] h := Tf_fold H
theorem B86_54 {gc : Nat → Nat} {d : Nat} {q : PT} {h : AH} {a0 : Nat} {x1 : Int32}
    (H : (∃ (vs1 : List Value) (b2 : Nat), at_ h a0 4 vs1 ∧ vs1[0]? = some (.ref b2) ∧ (∃ (vs3 : List Value) (z4 : Int32), at_ h b2 7 vs3 ∧ vs3[2]? = some (.int z4) ∧ q (some (.long (z4 : Int32).toInt64)) h))) : TT gc d 86 q 54 [.ref a0, .int x1] [] h := Tf_fold H
theorem B86_45 {gc : Nat → Nat} {d : Nat} {q : PT} {h : AH} {a0 : Nat} {x1 : Int32}
    (H : (∃ (vs1 : List Value) (b2 : Nat), at_ h a0 4 vs1 ∧ vs1[0]? = some (.ref b2) ∧ (∃ (vs3 : List Value) (z4 : Int32), at_ h b2 7 vs3 ∧ vs3[1]? = some (.int z4) ∧ q (some (.long (z4 : Int32).toInt64)) h))) : TT gc d 86 q 45 [.ref a0, .int x1] [] h := Tf_fold H
theorem B86_36 {gc : Nat → Nat} {d : Nat} {q : PT} {h : AH} {a0 : Nat} {x1 : Int32}
    (H : (∃ (vs1 : List Value) (b2 : Nat), at_ h a0 4 vs1 ∧ vs1[0]? = some (.ref b2) ∧ (∃ (vs3 : List Value) (z4 : Int32), at_ h b2 7 vs3 ∧ vs3[0]? = some (.int z4) ∧ q (some (.long (z4 : Int32).toInt64)) h))) : TT gc d 86 q 36 [.ref a0, .int x1] [] h := Tf_fold H
theorem M86 {gc : Nat → Nat} {d : Nat} {q : PT} {h : AH} {a0 : Nat} {x1 : Int32}
    (H : (((x1 : Int32).toInt < 0 ∨ 4 < (x1 : Int32).toInt → TT gc d 86 q 92 [.ref a0, .int x1] [] h) ∧ ∀ (j t : Nat), ([36, 45, 54, 63, 76] : List Nat)[j]? = some t → (x1 : Int32).toInt = 0 + j → TT gc d 86 q t [.ref a0, .int x1] [] h)) : WP gc (d + 1) 86 [.ref a0, .int x1] h q := ⟨q, fun _ _ z => z, Tf_fold H⟩
-- QueueBroker.held(III)J
theorem B87_33 {gc : Nat → Nat} {d : Nat} {q : PT} {h : AH} {a0 : Nat} {x1 : Int32} {x2 : Int32} {x3 : Int32}
    (H : (∃ (vs1 : List Value) (b2 : Nat), at_ h a0 9 vs1 ∧ vs1[2]? = some (.ref b2) ∧ (∃ (t3 : Nat) (vs4 : List Value) (b5 : Nat), at_ h b2 t3 vs4 ∧ isRA t3 = true ∧ ¬ (x1 : Int32) < 0 ∧ vs4[(x1 : Int32).toNatClampNeg]? = some (.ref b5) ∧ (∃ (vs6 : List Value) (b7 : Nat), at_ h b5 2 vs6 ∧ vs6[3]? = some (.ref b7) ∧ ((∃ vs11 : List Value, at_ h b7 10 vs11) ∧ ∃ Q8 : PT, WP gc d 18 [.ref b7, .int x2] h Q8 ∧ ∀ (r9 : Option Value) (h10 : AH), Q8 r9 h10 → ∃ b12 : Nat, r9 = some (.ref b12) ∧ (∃ vs13 : List Value, at_ h10 b12 4 vs13 ∧ (∃ Q14 : PT, WP gc d 88 [.ref b12, .int x3] h10 Q14 ∧ ∀ (r15 : Option Value) (h16 : AH), Q14 r15 h16 → ∃ y17 : Int64, r15 = some (.long y17) ∧ q (some (.long y17)) h16))))))) : TT gc d 87 q 33 [.ref a0, .int x1, .int x2, .int x3] [] h := Tf_fold H
theorem B87_29 {gc : Nat → Nat} {d : Nat} {q : PT} {h : AH} {a0 : Nat} {x1 : Int32} {x2 : Int32} {x3 : Int32}
    (H : q (some (.long (Int64.ofNat 18446743073709551616))) h) : TT gc d 87 q 29 [.ref a0, .int x1, .int x2, .int x3] [] h := Tf_fold H
theorem M87 {gc : Nat → Nat} {d : Nat} {q : PT} {h : AH} {a0 : Nat} {x1 : Int32} {x2 : Int32} {x3 : Int32}
    (H : (∃ Q1 : PT, WP gc d 40 [.int x1] h Q1 ∧ ∀ (r2 : Option Value) (h3 : AH), Q1 r2 h3 → ∃ z4 : Int32, r2 = some (.int z4) ∧ (((z4 : Int32) = 0 → TT gc d 87 q 29 [.ref a0, .int x1, .int x2, .int x3] [] h3) ∧ (¬ (z4 : Int32) = 0 → (∃ (vs5 : List Value) (b6 : Nat), at_ h3 a0 9 vs5 ∧ vs5[2]? = some (.ref b6) ∧ (∃ (t7 : Nat) (vs8 : List Value) (b9 : Nat), at_ h3 b6 t7 vs8 ∧ isRA t7 = true ∧ ¬ (x1 : Int32) < 0 ∧ vs8[(x1 : Int32).toNatClampNeg]? = some (.ref b9) ∧ (∃ (vs10 : List Value) (b11 : Nat), at_ h3 b9 2 vs10 ∧ vs10[3]? = some (.ref b11) ∧ ((∃ vs15 : List Value, at_ h3 b11 10 vs15) ∧ ∃ Q12 : PT, WP gc d 17 [.ref b11] h3 Q12 ∧ ∀ (r13 : Option Value) (h14 : AH), Q12 r13 h14 → ∃ z16 : Int32, r13 = some (.int z16) ∧ (∃ Q17 : PT, WP gc d 8 [.int x2, .int 0, .int (z16 - 1)] h14 Q17 ∧ ∀ (r18 : Option Value) (h19 : AH), Q17 r18 h19 → ∃ z20 : Int32, r18 = some (.int z20) ∧ ((¬ (z20 : Int32) = 0 → TT gc d 87 q 33 [.ref a0, .int x1, .int x2, .int x3] [] h19) ∧ ((z20 : Int32) = 0 → TT gc d 87 q 29 [.ref a0, .int x1, .int x2, .int x3] [] h19))))))))))) : WP gc (d + 1) 87 [.ref a0, .int x1, .int x2, .int x3] h q := ⟨q, fun _ _ z => z, Tf_fold H⟩
-- QueueBroker.heldField(LQueueBroker$Copy;I)J
theorem B88_54 {gc : Nat → Nat} {d : Nat} {q : PT} {h : AH} {a0 : Nat} {x1 : Int32}
    (H : (∃ Q1 : PT, WP gc d 86 [.ref a0, .int x1] h Q1 ∧ ∀ (r2 : Option Value) (h3 : AH), Q1 r2 h3 → ∃ y4 : Int64, r2 = some (.long y4) ∧ q (some (.long y4)) h3)) : TT gc d 88 q 54 [.ref a0, .int x1] [] h := Tf_fold H
theorem B88_53 {gc : Nat → Nat} {d : Nat} {q : PT} {h : AH} {a0 : Nat} {x1 : Int32} {y0 : Int64}
    (H : q (some (.long y0)) h) : TT gc d 88 q 53 [.ref a0, .int x1] [.long y0] h := Tf_fold H
theorem B88_52 {gc : Nat → Nat} {d : Nat} {q : PT} {h : AH} {a0 : Nat} {x1 : Int32}
    (H : TT gc d 88 q 53 [.ref a0, .int x1] [.long 1] h) : TT gc d 88 q 52 [.ref a0, .int x1] [] h := Tf_fold H
theorem B88_40 {gc : Nat → Nat} {d : Nat} {q : PT} {h : AH} {a0 : Nat} {x1 : Int32}
    (H : (∃ (vs1 : List Value) (z2 : Int32), at_ h a0 4 vs1 ∧ vs1[5]? = some (.int z2) ∧ ((¬ (z2 : Int32) = (((-1))) → TT gc d 88 q 52 [.ref a0, .int x1] [] h) ∧ ((z2 : Int32) = (((-1))) → TT gc d 88 q 53 [.ref a0, .int x1] [.long 0] h)))) : TT gc d 88 q 40 [.ref a0, .int x1] [] h := Tf_fold H
theorem B88_34 {gc : Nat → Nat} {d : Nat} {q : PT} {h : AH} {a0 : Nat} {x1 : Int32}
    (H : (∃ (vs1 : List Value) (z2 : Int32), at_ h a0 4 vs1 ∧ vs1[1]? = some (.int z2) ∧ q (some (.long (z2 : Int32).toInt64)) h)) : TT gc d 88 q 34 [.ref a0, .int x1] [] h := Tf_fold H
theorem B88_28 {gc : Nat → Nat} {d : Nat} {q : PT} {h : AH} {a0 : Nat} {x1 : Int32}
    (H : (∃ (vs1 : List Value) (z2 : Int32), at_ h a0 4 vs1 ∧ vs1[4]? = some (.int z2) ∧ q (some (.long (z2 : Int32).toInt64)) h)) : TT gc d 88 q 28 [.ref a0, .int x1] [] h := Tf_fold H
theorem M88 {gc : Nat → Nat} {d : Nat} {q : PT} {h : AH} {a0 : Nat} {x1 : Int32}
    (H : (((x1 : Int32).toInt < 5 ∨ 7 < (x1 : Int32).toInt → TT gc d 88 q 54 [.ref a0, .int x1] [] h) ∧ ∀ (j t : Nat), ([28, 34, 40] : List Nat)[j]? = some t → (x1 : Int32).toInt = 5 + j → TT gc d 88 q t [.ref a0, .int x1] [] h)) : WP gc (d + 1) 88 [.ref a0, .int x1] h q := ⟨q, fun _ _ z => z, Tf_fold H⟩
-- QueueBroker.count(II)I
theorem B89_201 {gc : Nat → Nat} {d : Nat} {q : PT} {h : AH} {a0 : Nat} {x1 : Int32} {x2 : Int32}
    (H : q (some (.int ((-1000)))) h) : TT gc d 89 q 201 [.ref a0, .int x1, .int x2] [] h := Tf_fold H
theorem B89_200 {gc : Nat → Nat} {d : Nat} {q : PT} {h : AH} {a0 : Nat} {x1 : Int32} {x2 : Int32} {sx0 : Int32}
    (H : q (some (.int sx0)) h) : TT gc d 89 q 200 [.ref a0, .int x1, .int x2] [.int sx0] h := Tf_fold H
theorem B89_197 {gc : Nat → Nat} {d : Nat} {q : PT} {h : AH} {a0 : Nat} {x1 : Int32} {x2 : Int32}
    (H : TT gc d 89 q 200 [.ref a0, .int x1, .int x2] [.int ((-1000))] h) : TT gc d 89 q 197 [.ref a0, .int x1, .int x2] [] h := Tf_fold H
theorem B89_180 {gc : Nat → Nat} {d : Nat} {q : PT} {h : AH} {a0 : Nat} {x1 : Int32} {x2 : Int32}
    (H : (∃ Q1 : PT, WP gc d 8 [.int x2, .int 0, .int 3] h Q1 ∧ ∀ (r2 : Option Value) (h3 : AH), Q1 r2 h3 → ∃ z4 : Int32, r2 = some (.int z4) ∧ (((z4 : Int32) = 0 → TT gc d 89 q 197 [.ref a0, .int x1, .int x2] [] h3) ∧ (¬ (z4 : Int32) = 0 → ((∃ vs8 : List Value, at_ h3 a0 9 vs8) ∧ ∃ Q5 : PT, WP gc d 92 [.ref a0, .int x2] h3 Q5 ∧ ∀ (r6 : Option Value) (h7 : AH), Q5 r6 h7 → ∃ z9 : Int32, r6 = some (.int z9) ∧ TT gc d 89 q 200 [.ref a0, .int x1, .int x2] [.int z9] h7))))) : TT gc d 89 q 180 [.ref a0, .int x1, .int x2] [] h := Tf_fold H
theorem B89_175 {gc : Nat → Nat} {d : Nat} {q : PT} {h : AH} {a0 : Nat} {x1 : Int32} {x2 : Int32}
    (H : (∃ (vs1 : List Value) (z2 : Int32), at_ h a0 9 vs1 ∧ vs1[7]? = some (.int z2) ∧ q (some (.int z2)) h)) : TT gc d 89 q 175 [.ref a0, .int x1, .int x2] [] h := Tf_fold H
theorem B89_170 {gc : Nat → Nat} {d : Nat} {q : PT} {h : AH} {a0 : Nat} {x1 : Int32} {x2 : Int32}
    (H : (∃ (vs1 : List Value) (z2 : Int32), at_ h a0 9 vs1 ∧ vs1[6]? = some (.int z2) ∧ q (some (.int z2)) h)) : TT gc d 89 q 170 [.ref a0, .int x1, .int x2] [] h := Tf_fold H
theorem B89_169 {gc : Nat → Nat} {d : Nat} {q : PT} {h : AH} {a0 : Nat} {x1 : Int32} {x2 : Int32} {sx0 : Int32}
    (H : q (some (.int sx0)) h) : TT gc d 89 q 169 [.ref a0, .int x1, .int x2] [.int sx0] h := Tf_fold H
theorem B89_166 {gc : Nat → Nat} {d : Nat} {q : PT} {h : AH} {a0 : Nat} {x1 : Int32} {x2 : Int32}
    (H : TT gc d 89 q 169 [.ref a0, .int x1, .int x2] [.int ((-1000))] h) : TT gc d 89 q 166 [.ref a0, .int x1, .int x2] [] h := Tf_fold H
theorem B89_149 {gc : Nat → Nat} {d : Nat} {q : PT} {h : AH} {a0 : Nat} {x1 : Int32} {x2 : Int32}
    (H : (∃ Q1 : PT, WP gc d 8 [.int x2, .int 0, .int 4] h Q1 ∧ ∀ (r2 : Option Value) (h3 : AH), Q1 r2 h3 → ∃ z4 : Int32, r2 = some (.int z4) ∧ (((z4 : Int32) = 0 → TT gc d 89 q 166 [.ref a0, .int x1, .int x2] [] h3) ∧ (¬ (z4 : Int32) = 0 → ((∃ vs8 : List Value, at_ h3 a0 9 vs8) ∧ ∃ Q5 : PT, WP gc d 91 [.ref a0, .int x2] h3 Q5 ∧ ∀ (r6 : Option Value) (h7 : AH), Q5 r6 h7 → ∃ z9 : Int32, r6 = some (.int z9) ∧ TT gc d 89 q 169 [.ref a0, .int x1, .int x2] [.int z9] h7))))) : TT gc d 89 q 149 [.ref a0, .int x1, .int x2] [] h := Tf_fold H
theorem B89_148 {gc : Nat → Nat} {d : Nat} {q : PT} {h : AH} {a0 : Nat} {x1 : Int32} {x2 : Int32} {sx0 : Int32}
    (H : q (some (.int sx0)) h) : TT gc d 89 q 148 [.ref a0, .int x1, .int x2] [.int sx0] h := Tf_fold H
theorem B89_145 {gc : Nat → Nat} {d : Nat} {q : PT} {h : AH} {a0 : Nat} {x1 : Int32} {x2 : Int32}
    (H : TT gc d 89 q 148 [.ref a0, .int x1, .int x2] [.int ((-1000))] h) : TT gc d 89 q 145 [.ref a0, .int x1, .int x2] [] h := Tf_fold H
theorem B89_130 {gc : Nat → Nat} {d : Nat} {q : PT} {h : AH} {a0 : Nat} {x1 : Int32} {x2 : Int32}
    (H : (∃ Q1 : PT, WP gc d 40 [.int x2] h Q1 ∧ ∀ (r2 : Option Value) (h3 : AH), Q1 r2 h3 → ∃ z4 : Int32, r2 = some (.int z4) ∧ (((z4 : Int32) = 0 → TT gc d 89 q 145 [.ref a0, .int x1, .int x2] [] h3) ∧ (¬ (z4 : Int32) = 0 → ((∃ vs8 : List Value, at_ h3 a0 9 vs8) ∧ ∃ Q5 : PT, WP gc d 90 [.ref a0, .int x2] h3 Q5 ∧ ∀ (r6 : Option Value) (h7 : AH), Q5 r6 h7 → ∃ z9 : Int32, r6 = some (.int z9) ∧ TT gc d 89 q 148 [.ref a0, .int x1, .int x2] [.int z9] h7))))) : TT gc d 89 q 130 [.ref a0, .int x1, .int x2] [] h := Tf_fold H
theorem B89_129 {gc : Nat → Nat} {d : Nat} {q : PT} {h : AH} {a0 : Nat} {x1 : Int32} {x2 : Int32} {sx0 : Int32}
    (H : q (some (.int sx0)) h) : TT gc d 89 q 129 [.ref a0, .int x1, .int x2] [.int sx0] h := Tf_fold H
theorem B89_126 {gc : Nat → Nat} {d : Nat} {q : PT} {h : AH} {a0 : Nat} {x1 : Int32} {x2 : Int32}
    (H : TT gc d 89 q 129 [.ref a0, .int x1, .int x2] [.int ((-1000))] h) : TT gc d 89 q 126 [.ref a0, .int x1, .int x2] [] h := Tf_fold H
theorem B89_104 {gc : Nat → Nat} {d : Nat} {q : PT} {h : AH} {a0 : Nat} {x1 : Int32} {x2 : Int32}
    (H : (∃ Q1 : PT, WP gc d 40 [.int x2] h Q1 ∧ ∀ (r2 : Option Value) (h3 : AH), Q1 r2 h3 → ∃ z4 : Int32, r2 = some (.int z4) ∧ (((z4 : Int32) = 0 → TT gc d 89 q 126 [.ref a0, .int x1, .int x2] [] h3) ∧ (¬ (z4 : Int32) = 0 → (∃ (vs5 : List Value) (b6 : Nat), at_ h3 a0 9 vs5 ∧ vs5[2]? = some (.ref b6) ∧ (∃ (t7 : Nat) (vs8 : List Value) (b9 : Nat), at_ h3 b6 t7 vs8 ∧ isRA t7 = true ∧ ¬ (x2 : Int32) < 0 ∧ vs8[(x2 : Int32).toNatClampNeg]? = some (.ref b9) ∧ (∃ (vs10 : List Value) (b11 : Nat), at_ h3 b9 2 vs10 ∧ vs10[3]? = some (.ref b11) ∧ ((∃ vs15 : List Value, at_ h3 b11 10 vs15) ∧ ∃ Q12 : PT, WP gc d 17 [.ref b11] h3 Q12 ∧ ∀ (r13 : Option Value) (h14 : AH), Q12 r13 h14 → ∃ z16 : Int32, r13 = some (.int z16) ∧ TT gc d 89 q 129 [.ref a0, .int x1, .int x2] [.int z16] h14)))))))) : TT gc d 89 q 104 [.ref a0, .int x1, .int x2] [] h := Tf_fold H
theorem B89_103 {gc : Nat → Nat} {d : Nat} {q : PT} {h : AH} {a0 : Nat} {x1 : Int32} {x2 : Int32} {sx0 : Int32}
    (H : q (some (.int sx0)) h) : TT gc d 89 q 103 [.ref a0, .int x1, .int x2] [.int sx0] h := Tf_fold H
theorem B89_100 {gc : Nat → Nat} {d : Nat} {q : PT} {h : AH} {a0 : Nat} {x1 : Int32} {x2 : Int32}
    (H : TT gc d 89 q 103 [.ref a0, .int x1, .int x2] [.int ((-1000))] h) : TT gc d 89 q 100 [.ref a0, .int x1, .int x2] [] h := Tf_fold H
theorem B89_76 {gc : Nat → Nat} {d : Nat} {q : PT} {h : AH} {a0 : Nat} {x1 : Int32} {x2 : Int32}
    (H : (∃ Q1 : PT, WP gc d 8 [.int x2, .int 0, .int 5] h Q1 ∧ ∀ (r2 : Option Value) (h3 : AH), Q1 r2 h3 → ∃ z4 : Int32, r2 = some (.int z4) ∧ (((z4 : Int32) = 0 → TT gc d 89 q 100 [.ref a0, .int x1, .int x2] [] h3) ∧ (¬ (z4 : Int32) = 0 → (∃ (vs5 : List Value) (b6 : Nat), at_ h3 a0 9 vs5 ∧ vs5[1]? = some (.ref b6) ∧ (∃ (t7 : Nat) (vs8 : List Value) (b9 : Nat), at_ h3 b6 t7 vs8 ∧ isRA t7 = true ∧ ¬ (x2 : Int32) < 0 ∧ vs8[(x2 : Int32).toNatClampNeg]? = some (.ref b9) ∧ (∃ (vs10 : List Value) (b11 : Nat), at_ h3 b9 8 vs10 ∧ vs10[5]? = some (.ref b11) ∧ ((∃ vs15 : List Value, at_ h3 b11 10 vs15) ∧ ∃ Q12 : PT, WP gc d 17 [.ref b11] h3 Q12 ∧ ∀ (r13 : Option Value) (h14 : AH), Q12 r13 h14 → ∃ z16 : Int32, r13 = some (.int z16) ∧ TT gc d 89 q 103 [.ref a0, .int x1, .int x2] [.int z16] h14)))))))) : TT gc d 89 q 76 [.ref a0, .int x1, .int x2] [] h := Tf_fold H
theorem B89_75 {gc : Nat → Nat} {d : Nat} {q : PT} {h : AH} {a0 : Nat} {x1 : Int32} {x2 : Int32} {sx0 : Int32}
    (H : q (some (.int sx0)) h) : TT gc d 89 q 75 [.ref a0, .int x1, .int x2] [.int sx0] h := Tf_fold H
theorem B89_72 {gc : Nat → Nat} {d : Nat} {q : PT} {h : AH} {a0 : Nat} {x1 : Int32} {x2 : Int32}
    (H : TT gc d 89 q 75 [.ref a0, .int x1, .int x2] [.int ((-1000))] h) : TT gc d 89 q 72 [.ref a0, .int x1, .int x2] [] h := Tf_fold H
theorem B89_48 {gc : Nat → Nat} {d : Nat} {q : PT} {h : AH} {a0 : Nat} {x1 : Int32} {x2 : Int32}
    (H : (∃ Q1 : PT, WP gc d 8 [.int x2, .int 0, .int 5] h Q1 ∧ ∀ (r2 : Option Value) (h3 : AH), Q1 r2 h3 → ∃ z4 : Int32, r2 = some (.int z4) ∧ (((z4 : Int32) = 0 → TT gc d 89 q 72 [.ref a0, .int x1, .int x2] [] h3) ∧ (¬ (z4 : Int32) = 0 → (∃ (vs5 : List Value) (b6 : Nat), at_ h3 a0 9 vs5 ∧ vs5[1]? = some (.ref b6) ∧ (∃ (t7 : Nat) (vs8 : List Value) (b9 : Nat), at_ h3 b6 t7 vs8 ∧ isRA t7 = true ∧ ¬ (x2 : Int32) < 0 ∧ vs8[(x2 : Int32).toNatClampNeg]? = some (.ref b9) ∧ (∃ (vs10 : List Value) (b11 : Nat), at_ h3 b9 8 vs10 ∧ vs10[4]? = some (.ref b11) ∧ ((∃ vs15 : List Value, at_ h3 b11 10 vs15) ∧ ∃ Q12 : PT, WP gc d 17 [.ref b11] h3 Q12 ∧ ∀ (r13 : Option Value) (h14 : AH), Q12 r13 h14 → ∃ z16 : Int32, r13 = some (.int z16) ∧ TT gc d 89 q 75 [.ref a0, .int x1, .int x2] [.int z16] h14)))))))) : TT gc d 89 q 48 [.ref a0, .int x1, .int x2] [] h := Tf_fold H
theorem M89 {gc : Nat → Nat} {d : Nat} {q : PT} {h : AH} {a0 : Nat} {x1 : Int32} {x2 : Int32}
    (H : (((x1 : Int32).toInt < 0 ∨ 7 < (x1 : Int32).toInt → TT gc d 89 q 201 [.ref a0, .int x1, .int x2] [] h) ∧ ∀ (j t : Nat), ([48, 76, 104, 130, 149, 170, 175, 180] : List Nat)[j]? = some t → (x1 : Int32).toInt = 0 + j → TT gc d 89 q t [.ref a0, .int x1, .int x2] [] h)) : WP gc (d + 1) 89 [.ref a0, .int x1, .int x2] h q := ⟨q, fun _ _ z => z, Tf_fold H⟩
-- QueueBroker.countDeeds(I)I
theorem B90_28 {gc : Nat → Nat} {d : Nat} {q : PT} {h : AH} {a0 : Nat} {x1 : Int32} {sx0 : Int32}
    (H : q (some (.int sx0)) h) : TT gc d 90 q 28 [.ref a0, .int x1] [.int sx0] h := Tf_fold H
theorem B90_27 {gc : Nat → Nat} {d : Nat} {q : PT} {h : AH} {a0 : Nat} {x1 : Int32}
    (H : TT gc d 90 q 28 [.ref a0, .int x1] [.int ((-1))] h) : TT gc d 90 q 27 [.ref a0, .int x1] [] h := Tf_fold H
theorem M90 {gc : Nat → Nat} {d : Nat} {q : PT} {h : AH} {a0 : Nat} {x1 : Int32}
    (H : (∃ (vs1 : List Value) (b2 : Nat), at_ h a0 9 vs1 ∧ vs1[2]? = some (.ref b2) ∧ (∃ (t3 : Nat) (vs4 : List Value) (b5 : Nat), at_ h b2 t3 vs4 ∧ isRA t3 = true ∧ ¬ (x1 : Int32) < 0 ∧ vs4[(x1 : Int32).toNatClampNeg]? = some (.ref b5) ∧ (∃ (vs6 : List Value) (z7 : Int32), at_ h b5 2 vs6 ∧ vs6[1]? = some (.int z7) ∧ (((z7 : Int32) = 0 → TT gc d 90 q 27 [.ref a0, .int x1] [] h) ∧ (¬ (z7 : Int32) = 0 → (∃ (vs8 : List Value) (b9 : Nat), at_ h a0 9 vs8 ∧ vs8[2]? = some (.ref b9) ∧ (∃ (t10 : Nat) (vs11 : List Value) (b12 : Nat), at_ h b9 t10 vs11 ∧ isRA t10 = true ∧ ¬ (x1 : Int32) < 0 ∧ vs11[(x1 : Int32).toNatClampNeg]? = some (.ref b12) ∧ (∃ (vs13 : List Value) (b14 : Nat), at_ h b12 2 vs13 ∧ vs13[4]? = some (.ref b14) ∧ ((∃ vs18 : List Value, at_ h b14 10 vs18) ∧ ∃ Q15 : PT, WP gc d 17 [.ref b14] h Q15 ∧ ∀ (r16 : Option Value) (h17 : AH), Q15 r16 h17 → ∃ z19 : Int32, r16 = some (.int z19) ∧ TT gc d 90 q 28 [.ref a0, .int x1] [.int z19] h17)))))))))) : WP gc (d + 1) 90 [.ref a0, .int x1] h q := ⟨q, fun _ _ z => z, Tf_fold H⟩
-- QueueBroker.countBindings(I)I
theorem B91_42 {gc : Nat → Nat} {d : Nat} {q : PT} {h : AH} {a0 : Nat} {x1 : Int32} {x2 : Int32} {x3 : Int32}
    (H : q (some (.int x2)) h) : TT gc d 91 q 42 [.ref a0, .int x1, .int x2, .int x3] [] h := Tf_fold H
theorem B91_36 {gc : Nat → Nat} {d : Nat} {q : PT} {h : AH} {a0 : Nat} {x1 : Int32} {x2 : Int32} {x3 : Int32}
    (H : TT gc d 91 q 4 [.ref a0, .int x1, .int x2, .int (x3 + 1)] [] h) : TT gc d 91 q 36 [.ref a0, .int x1, .int x2, .int x3] [] h := Tf_fold H
theorem B91_4 {gc : Nat → Nat} {d : Nat} {q : PT} {h : AH} {a0 : Nat} {x1 : Int32} {x2 : Int32} {x3 : Int32}
    (H : (∃ (vs1 : List Value) (b2 : Nat), at_ h a0 9 vs1 ∧ vs1[3]? = some (.ref b2) ∧ ((∃ vs6 : List Value, at_ h b2 10 vs6) ∧ ∃ Q3 : PT, WP gc d 17 [.ref b2] h Q3 ∧ ∀ (r4 : Option Value) (h5 : AH), Q3 r4 h5 → ∃ z7 : Int32, r4 = some (.int z7) ∧ ((z7 ≤ (x3 : Int32) → TT gc d 91 q 42 [.ref a0, .int x1, .int x2, .int x3] [] h5) ∧ (¬ z7 ≤ (x3 : Int32) → (∃ (vs8 : List Value) (b9 : Nat), at_ h5 a0 9 vs8 ∧ vs8[3]? = some (.ref b9) ∧ ((∃ vs13 : List Value, at_ h5 b9 10 vs13) ∧ ∃ Q10 : PT, WP gc d 18 [.ref b9, .int x3] h5 Q10 ∧ ∀ (r11 : Option Value) (h12 : AH), Q10 r11 h12 → ∃ b14 : Nat, r11 = some (.ref b14) ∧ (∃ vs15 : List Value, at_ h12 b14 1 vs15 ∧ (∃ (vs16 : List Value) (z17 : Int32), at_ h12 b14 1 vs16 ∧ vs16[0]? = some (.int z17) ∧ ((¬ (z17 : Int32) = x1 → TT gc d 91 q 36 [.ref a0, .int x1, .int x2, .int x3] [] h12) ∧ ((z17 : Int32) = x1 → TT gc d 91 q 36 [.ref a0, .int x1, .int (x2 + 1), .int x3] [] h12))))))))))) : TT gc d 91 q 4 [.ref a0, .int x1, .int x2, .int x3] [] h := Tf_fold H
theorem M91 {gc : Nat → Nat} {d : Nat} {q : PT} {h : AH} {a0 : Nat} {x1 : Int32}
    (H : TT gc d 91 q 4 [.ref a0, .int x1, .int 0, .int 0] [] h) : WP gc (d + 1) 91 [.ref a0, .int x1] h q := ⟨q, fun _ _ z => z, Tf_fold H⟩
-- QueueBroker.channelInFirstRow(I)I
theorem B92_39 {gc : Nat → Nat} {d : Nat} {q : PT} {h : AH} {a0 : Nat} {x1 : Int32} {sx0 : Int32}
    (H : q (some (.int sx0)) h) : TT gc d 92 q 39 [.ref a0, .int x1] [.int sx0] h := Tf_fold H
theorem B92_38 {gc : Nat → Nat} {d : Nat} {q : PT} {h : AH} {a0 : Nat} {x1 : Int32}
    (H : TT gc d 92 q 39 [.ref a0, .int x1] [.int ((-1))] h) : TT gc d 92 q 38 [.ref a0, .int x1] [] h := Tf_fold H
theorem M92 {gc : Nat → Nat} {d : Nat} {q : PT} {h : AH} {a0 : Nat} {x1 : Int32}
    (H : (∃ (vs1 : List Value) (b2 : Nat), at_ h a0 9 vs1 ∧ vs1[1]? = some (.ref b2) ∧ (∃ (t3 : Nat) (vs4 : List Value) (b5 : Nat), at_ h b2 t3 vs4 ∧ isRA t3 = true ∧ ¬ (0 : Int32) < 0 ∧ vs4[(0 : Int32).toNatClampNeg]? = some (.ref b5) ∧ (∃ (vs6 : List Value) (b7 : Nat), at_ h b5 8 vs6 ∧ vs6[5]? = some (.ref b7) ∧ ((∃ vs11 : List Value, at_ h b7 10 vs11) ∧ ∃ Q8 : PT, WP gc d 17 [.ref b7] h Q8 ∧ ∀ (r9 : Option Value) (h10 : AH), Q8 r9 h10 → ∃ z12 : Int32, r9 = some (.int z12) ∧ ((z12 ≤ (x1 : Int32) → TT gc d 92 q 38 [.ref a0, .int x1] [] h10) ∧ (¬ z12 ≤ (x1 : Int32) → (∃ (vs13 : List Value) (b14 : Nat), at_ h10 a0 9 vs13 ∧ vs13[1]? = some (.ref b14) ∧ (∃ (t15 : Nat) (vs16 : List Value) (b17 : Nat), at_ h10 b14 t15 vs16 ∧ isRA t15 = true ∧ ¬ (0 : Int32) < 0 ∧ vs16[(0 : Int32).toNatClampNeg]? = some (.ref b17) ∧ (∃ (vs18 : List Value) (b19 : Nat), at_ h10 b17 8 vs18 ∧ vs18[5]? = some (.ref b19) ∧ ((∃ vs23 : List Value, at_ h10 b19 10 vs23) ∧ ∃ Q20 : PT, WP gc d 18 [.ref b19, .int x1] h10 Q20 ∧ ∀ (r21 : Option Value) (h22 : AH), Q20 r21 h22 → ∃ b24 : Nat, r21 = some (.ref b24) ∧ (∃ vs25 : List Value, at_ h22 b24 3 vs25 ∧ (∃ (vs26 : List Value) (z27 : Int32), at_ h22 b24 3 vs26 ∧ vs26[0]? = some (.int z27) ∧ TT gc d 92 q 39 [.ref a0, .int x1] [.int z27] h22))))))))))))) : WP gc (d + 1) 92 [.ref a0, .int x1] h q := ⟨q, fun _ _ z => z, Tf_fold H⟩
end
section
/-! pictures: what a write leaves -/
theorem at_s {h : AH} {a t : Nat} {vs : List Value} : at_ (ah_set h a (t, vs)) a t vs := by
  unfold at_ ah_set ah_up
  simp
theorem at_n {h : AH} {a b t : Nat} {e : Nat × List Value} {vs : List Value} (hb : at_ h b t vs) (hn : b ≠ a) : at_ (ah_set h a e) b t vs := by
  unfold at_ ah_set ah_up at *
  simp [hn, hb]
theorem at_ne {h : AH} {a b t t' : Nat} {vs vs' : List Value} (h1 : at_ h a t vs) (h2 : at_ h b t' vs') (hn : t ≠ t') : a ≠ b := by
  rintro rfl
  unfold at_ at h1 h2
  rw [h1] at h2
  exact hn (Prod.mk.inj h2).1
theorem at_eq {h : AH} {a t t' : Nat} {vs vs' : List Value} (h1 : at_ h a t vs) (h2 : at_ h a t' vs') : t = t' ∧ vs = vs' := by
  unfold at_ at h1 h2
  rw [h1] at h2
  exact Prod.mk.inj h2
/-- nothing lies from the top on -/
def Fr (h : AH) : Prop := ∀ b : Nat, h.1 ≤ b → h.2.2.2 b = (0, [])
theorem Fr.lt {h : AH} (hf : Fr h) {b t : Nat} {vs : List Value} (hb : at_ h b t vs) (ht : t ≠ 0) : b < h.1 := by
  apply Nat.lt_of_not_le
  intro z
  unfold at_ at hb
  rw [hf b z] at hb
  exact ht (Prod.mk.inj hb).1.symm
theorem Fr.set {h : AH} (hf : Fr h) {a t : Nat} {vs : List Value} {e : Nat × List Value} (ha : at_ h a t vs) (ht : t ≠ 0) : Fr (ah_set h a e) := by
  intro b hb
  have hlt := hf.lt ha ht
  have hne : b ≠ a := fun z => by subst z; exact absurd hlt (Nat.not_lt.mpr hb)
  show ah_up h.2.2.2 a e b = _
  unfold ah_up
  rw [if_neg hne]
  exact hf b hb
theorem at_new {h : AH} {t : Nat} {vs : List Value} : at_ (ah_new h (t, vs)) h.1 t vs := by
  unfold at_ ah_new ah_up
  simp
theorem at_old {h : AH} {b t : Nat} {e : Nat × List Value} {vs : List Value} (hf : Fr h) (hb : at_ h b t vs) (ht : t ≠ 0) : at_ (ah_new h e) b t vs := by
  have hne : b ≠ h.1 := Nat.ne_of_lt (hf.lt hb ht)
  unfold at_ ah_new ah_up at *
  simp [hne, hb]
theorem Fr.new {h : AH} (hf : Fr h) {e : Nat × List Value} : Fr (ah_new h e) := by
  intro b hb
  have hb : h.1 + 1 ≤ b := hb
  show ah_up h.2.2.2 h.1 e b = _
  unfold ah_up
  rw [if_neg (by omega)]
  exact hf b (by omega)
/-- what changed lies in S or is new; tags stay -/
def Chg (h h' : AH) (S : Nat → Prop) : Prop := h.1 ≤ h'.1 ∧ Fr h' ∧ ∀ b : Nat, b < h.1 → ¬ S b → h'.2.2.2 b = h.2.2.2 b
theorem Chg.refl {h : AH} {S : Nat → Prop} (hf : Fr h) : Chg h h S := ⟨Nat.le_refl _, hf, fun _ _ _ => rfl⟩
theorem Chg.at {h h' : AH} {S : Nat → Prop} (hc : Chg h h' S) (hf : Fr h) {b t : Nat} {vs : List Value} (hb : at_ h b t vs) (ht : t ≠ 0) (hs : ¬ S b) : at_ h' b t vs := (hc.2.2 b (hf.lt hb ht) hs).trans hb
theorem Chg.trans {h h' h'' : AH} {S : Nat → Prop} (h1 : Chg h h' S) (h2 : Chg h' h'' S) : Chg h h'' S :=
  ⟨Nat.le_trans h1.1 h2.1, h2.2.1, fun b hb hs => (h2.2.2 b (Nat.lt_of_lt_of_le hb h1.1) hs).trans (h1.2.2 b hb hs)⟩
theorem Chg.mono {h h' : AH} {S T : Nat → Prop} (hc : Chg h h' S) (hst : ∀ b, b < h.1 → S b → T b) : Chg h h' T := ⟨hc.1, hc.2.1, fun b hb ht => hc.2.2 b hb (fun z => ht (hst b hb z))⟩
theorem Chg.set {h : AH} {S : Nat → Prop} (hf : Fr h) {a t : Nat} {vs : List Value} {e : Nat × List Value} (ha : at_ h a t vs) (ht : t ≠ 0) (hs : S a) : Chg h (ah_set h a e) S := by
  refine ⟨Nat.le_refl _, hf.set ha ht, fun b hb hn => ?_⟩
  show ah_up h.2.2.2 a e b = _
  unfold ah_up
  rw [if_neg (show ¬ b = a from fun z => hn (by rw [z]; exact hs))]
theorem Chg.new {h : AH} {S : Nat → Prop} (hf : Fr h) {e : Nat × List Value} : Chg h (ah_new h e) S := by
  refine ⟨Nat.le_succ _, hf.new, fun b hb hn => ?_⟩
  show ah_up h.2.2.2 h.1 e b = _
  unfold ah_up
  rw [if_neg (Nat.ne_of_lt hb)]
theorem set_top {h : AH} {a : Nat} {e : Nat × List Value} : (ah_set h a e).1 = h.1 ∧ (ah_set h a e).2.1 = h.2.1 ∧ (ah_set h a e).2.2.1 = h.2.2.1 := ⟨rfl, rfl, rfl⟩
/-! lists of addresses: an ArrayList at a, its places at e (cap of them), its elements xs -/
def El (h : AH) (xs : List Nat) : Prop := ∀ x ∈ xs, ∃ (t : Nat) (ws : List Value), at_ h x t ws ∧ asg 103 t = true
def pl (cap : Nat) (xs : List Nat) : List Value := xs.map Value.ref ++ List.replicate (cap - xs.length) .null
def Lst (gc : Nat → Nat) (h : AH) (a e cap : Nat) (xs : List Nat) : Prop :=
  (∃ m : Int32, at_ h a 10 [.int m, .ref e, .int (nI xs.length)]) ∧ xs.length ≤ cap ∧ cap ≤ 4000 ∧ ((cap = 0 ∧ e = gc 1 ∧ at_ h e 201 []) ∨ (0 < cap ∧ at_ h e 103 (pl cap xs))) ∧ El h xs
theorem asg_t {t : Nat} (h : asg 103 t = true) : t = 1 ∨ t = 3 ∨ t = 4 ∨ t = 5 := by
  unfold asg at h
  split at h <;> first | (cases h; done) | omega
theorem pl_len {cap : Nat} {xs : List Nat} (h : xs.length ≤ cap) : (pl cap xs).length = cap := by
  unfold pl
  rw [List.length_append, List.length_map, List.length_replicate]
  omega
theorem pl_at {cap i : Nat} {xs : List Nat} (h : i < xs.length) : (pl cap xs)[i]? = some (.ref xs[i]) := by
  unfold pl
  rw [List.getElem?_append_left (by rw [List.length_map]; exact h), List.getElem?_map, List.getElem?_eq_getElem h]
  rfl
theorem El.keep {h h' : AH} {xs : List Nat} (hk : ∀ b t ws, at_ h b t ws → asg 103 t = true → ∃ ws', at_ h' b t ws') (he : El h xs) : El h' xs := fun x hx => by
  obtain ⟨t, ws, h1, h2⟩ := he x hx
  obtain ⟨ws', h3⟩ := hk x t ws h1 h2
  exact ⟨t, ws', h3, h2⟩
end
section
/-! ArrayList's methods over Lst -/
theorem nI_ofNat (n : Nat) : Int32.ofNat n = nI n := rfl
theorem k_size {gc : Nat → Nat} {d : Nat} {h : AH} {a e cap : Nat} {xs : List Nat} (hL : Lst gc h a e cap xs) : WP gc (d + 1) 17 [.ref a] h (fun r h' => r = some (.int (nI xs.length)) ∧ h' = h) := by
  obtain ⟨⟨m, h1⟩, -⟩ := hL
  exact M17 ⟨_, _, h1, rfl, rfl, rfl⟩
theorem k_chk {gc : Nat → Nat} {d i n : Nat} {h : AH} (hi : i < n) (hn : n < 2 ^ 31) : WP gc (d + 2) 19 [.int (nI i), .int (nI n)] h (fun r h' => r = some (.int (nI i)) ∧ h' = h) :=
  M19 ⟨fun r h' => r = some (.int (nI i)) ∧ h' = h, M20 ⟨fun z => absurd z (nI_pos (by omega)), fun _ => ⟨fun _ => B20_16 ⟨rfl, rfl⟩, fun z => absurd (nI_lt hi hn) z⟩⟩, fun r h' ⟨h1, h2⟩ => ⟨_, h1, rfl, h2⟩⟩
theorem k_get {gc : Nat → Nat} {d i : Nat} {h : AH} {a e cap : Nat} {xs : List Nat} (hL : Lst gc h a e cap xs) (hi : i < xs.length) : WP gc (d + 3) 18 [.ref a, .int (nI i)] h (fun r h' => r = some (.ref xs[i]) ∧ h' = h) := by
  obtain ⟨⟨m, h1⟩, h2, h3, h4, h5⟩ := hL
  rcases h4 with ⟨h4, -⟩ | ⟨-, h4⟩
  · omega
  · refine M18 ⟨_, _, h1, rfl, _, k_chk (n := xs.length) hi (by omega), ?_⟩
    rintro r h' ⟨rfl, rfl⟩
    refine ⟨_, rfl, ⟨_, h1⟩, fun r h'' => r = some (.ref xs[i]) ∧ h'' = h', M21 ⟨_, _, h1, rfl, 103, _, _, h4, rfl, nI_pos (by omega), by rw [nI_clamp (by omega)]; exact pl_at hi, rfl, rfl⟩, ?_⟩
    rintro r h'' ⟨rfl, rfl⟩
    exact ⟨_, rfl, rfl, rfl⟩
theorem k_isEmpty {gc : Nat → Nat} {d : Nat} {h : AH} {a e cap : Nat} {xs : List Nat} (hL : Lst gc h a e cap xs) : WP gc (d + 1) 63 [.ref a] h (fun r h' => r = some (.int (if xs = [] then 1 else 0)) ∧ h' = h) := by
  obtain ⟨⟨m, h1⟩, h2, h3, -⟩ := hL
  by_cases hx : xs = []
  · subst hx
    exact M63 ⟨_, _, h1, rfl, fun z => absurd rfl z, fun _ => B63_12 ⟨Or.inr rfl, by rw [if_pos rfl], rfl⟩⟩
  · have hl : 0 < xs.length := List.length_pos_iff.mpr hx
    exact M63 ⟨_, _, h1, rfl, fun _ => B63_11 (B63_12 ⟨Or.inl rfl, by rw [if_neg hx], rfl⟩), fun z => absurd z (nI_ne0 hl (by omega))⟩
/-- newLength: n and n/2 more, at least one -/
def gr (n : Nat) : Nat := if n = 0 then 10 else n + (if 1 < n / 2 then n / 2 else 1)
theorem k_newLen {gc : Nat → Nat} {d n : Nat} {h : AH} (h0 : 0 < n) (hn : n ≤ 4000) : WP gc (d + 1) 27 [.int (nI n), .int (nI (n + 1) - nI n), .int (nI n >>> (1 &&& 31))] h (fun r h' => r = some (.int (nI (gr n))) ∧ h' = h) := by
  have e1 : nI (n + 1) - nI n = nI 1 := by rw [pk_sub (by omega)]; congr 1; omega
  have e2 : nI n >>> ((1 : Int32) &&& 31) = nI (n / 2) := by
    have k := pk_shrN (n := n) (by omega) ((1 : Int32) &&& 31) 1 (by decide)
    rw [Nat.pow_one] at k
    exact k
  rw [e1, e2]
  have e3 : (nI n + (if nI 1 < nI (n / 2) then nI (n / 2) else nI 1)) = nI (gr n) := by
    unfold gr
    rw [if_neg (show ¬ n = 0 by omega)]
    by_cases c : 1 < n / 2
    · rw [if_pos (nI_lt c (by omega)), if_pos c, nI_add]
    · rw [if_neg (nI_nlt (by omega) (by decide)), if_neg c, nI_add]
  have hg : 0 < gr n ∧ gr n ≤ 6001 := by
    unfold gr
    split <;> (try split) <;> omega
  refine M27 ⟨fun z => ?_, fun _ => ⟨fun z => ?_, fun _ => ?_⟩⟩
  · rw [e3] at z
    exact absurd z (nI_nle hg.1 (by omega))
  · rw [e3] at z
    exact absurd z (nI_nlt (a := 2147483639) (b := gr n) (by omega) (by decide))
  · rw [e3]
    exact ⟨rfl, rfl⟩
end
section
theorem cpy_pl {n k : Nat} {xs : List Nat} (hn : xs.length = n) (hk : n ≤ k) : cpyL (pl n xs) (List.replicate k .null) 0 0 n = pl k xs := by
  apply List.ext_getElem?
  intro j
  unfold cpyL
  rw [List.getElem?_map, List.length_replicate]
  by_cases hj : j < k
  · rw [List.getElem?_range hj]
    show some (va_cpy _ _ 0 0 n j) = _
    by_cases hjn : j < n
    · rw [pk_cpy_in (Nat.zero_le _) (by omega), Nat.zero_add, Nat.sub_zero, vp_read (pl_at (by omega)), pl_at (by omega)]
    · rw [pk_cpy_out (Or.inr (by omega))]
      unfold pl vp_V
      rw [List.getD_eq_getElem?_getD, List.getElem?_replicate, if_pos hj, List.getElem?_append_right (by rw [List.length_map]; omega), List.getElem?_replicate, if_pos (by rw [List.length_map]; omega)]
      rfl
  · rw [List.getElem?_eq_none (by rw [List.length_range]; omega), List.getElem?_eq_none (by rw [pl_len (by omega)]; omega)]
    rfl
theorem pl_el {h : AH} {cap : Nat} {xs : List Nat} (he : El h xs) : ∀ v ∈ pl cap xs, v = .null ∨ ∃ (y ty : Nat) (vs : List Value), v = .ref y ∧ at_ h y ty vs ∧ asg 103 ty = true := by
  intro v hv
  unfold pl at hv
  rcases List.mem_append.mp hv with g | g
  · obtain ⟨y, hy, rfl⟩ := List.mem_map.mp g
    obtain ⟨t, ws, h1, h2⟩ := he y hy
    exact Or.inr ⟨y, t, ws, rfl, h1, h2⟩
  · exact Or.inl (List.mem_replicate.mp g).2
theorem asg_n0 {t : Nat} (h : asg 103 t = true) : t ≠ 0 ∧ t ≠ 10 ∧ t ≠ 103 ∧ t ≠ 201 := by
  rcases asg_t h with h | h | h | h <;> omega
theorem El.chg {h h' : AH} {xs : List Nat} {S : Nat → Prop} (hf : Fr h) (hc : Chg h h' S) (hS : ∀ b t ws, S b → at_ h b t ws → asg 103 t = false) (he : El h xs) : El h' xs := fun x hx => by
  obtain ⟨t, ws, h1, h2⟩ := he x hx
  refine ⟨t, ws, hc.at hf h1 (asg_n0 h2).1 (fun z => ?_), h2⟩
  rw [hS x t ws z h1] at h2
  cases h2
theorem k_copyOf {gc : Nat → Nat} {d n k : Nat} {h : AH} {a : Nat} {xs : List Nat} (hf : Fr h) (ha : at_ h a 103 (pl n xs)) (he : El h xs) (hn : xs.length = n) (h0 : 0 < n) (hk : n < k) (hk2 : k ≤ 100000) (r1 : 1 ≤ h.2.1) (r2 : k ≤ h.2.2.1) :
    WP gc (d + 2) 29 [.ref a, .int (nI k)] h (fun r h' => r = some (.ref h.1) ∧ at_ h' h.1 103 (pl k xs) ∧ Chg h h' (fun _ => False) ∧ h'.1 = h.1 + 1 ∧ h'.2.1 = h.2.1 - 1 ∧ h'.2.2.1 = h.2.2.1 - k) := by
  have ek : (nI k).toNatClampNeg = k := nI_clamp (by omega)
  have hlen : (pl n xs).length = n := pl_len (by omega)
  have emin : (if nI k < Int32.ofNat (pl n xs).length then nI k else Int32.ofNat (pl n xs).length) = nI n := by
    rw [hlen]
    exact if_neg (nI_nlt (by omega) (by omega))
  have en : (nI n).toNatClampNeg = n := nI_clamp (by omega)
  have e0 : (0 : Int32).toNatClampNeg = 0 := by decide
  refine M29 ⟨⟨_, ha⟩, fun r h' => r = some (.ref h.1) ∧ at_ h' h.1 103 (pl k xs) ∧ Chg h h' (fun _ => False) ∧ h'.1 = h.1 + 1 ∧ h'.2.1 = h.2.1 - 1 ∧ h'.2.2.1 = h.2.2.1 - k, M30 ⟨fun z => absurd rfl z, fun _ => ⟨nI_pos (by omega), r1, by rw [ek]; exact r2, by rw [ek]; exact hk2, ?_⟩⟩, ?_⟩
  · rintro b1 h2 rfl rfl
    rw [ek]
    have ha2 : at_ (ah_new h (103, List.replicate k .null)) a 103 (pl n xs) := at_old hf ha (by decide)
    refine B30_24 ⟨103, _, ha2, Or.inl ⟨by decide, by decide⟩, _, _, ha2, at_new, by decide, by decide, ?_⟩
    rw [emin, e0, en]
    refine ⟨nI_pos (by omega), by omega, by rw [List.length_replicate]; omega, by rw [List.length_replicate]; omega, pl_el (fun x hx => ?_), ?_⟩
    · obtain ⟨t, ws, g1, g2⟩ := he x hx
      exact ⟨t, ws, at_old hf g1 (asg_n0 g2).1, g2⟩
    · rintro h5 rfl
      refine ⟨rfl, ?_, ?_, rfl, rfl, ?_⟩
      · rw [cpy_pl hn (by omega)]
        exact at_s
      · refine ⟨Nat.le_succ _, (hf.new).set at_new (by decide), fun b hb _ => ?_⟩
        show ah_up (ah_up h.2.2.2 h.1 _) h.1 _ b = _
        unfold ah_up
        rw [if_neg (Nat.ne_of_lt hb), if_neg (Nat.ne_of_lt hb)]
      · show h.2.2.1 - (List.replicate k Value.null).length = _
        rw [List.length_replicate]
  · rintro r h' ⟨rfl, hq⟩
    exact ⟨_, rfl, rfl, hq⟩
/-- grow(): a full list gets gr cap places -/
theorem k_grow {gc : Nat → Nat} {d cap : Nat} {h : AH} {a e : Nat} {m : Int32} {xs : List Nat} (hf : Fr h) (ha : at_ h a 10 [.int m, .ref e, .int (nI cap)]) (hn : xs.length = cap) (hc : cap ≤ 4000) (h4 : (cap = 0 ∧ e = gc 1 ∧ at_ h e 201 []) ∨ (0 < cap ∧ at_ h e 103 (pl cap xs))) (he : El h xs) (r1 : 1 ≤ h.2.1) (r2 : 10000 ≤ h.2.2.1) :
    WP gc (d + 4) 25 [.ref a] h (fun r h' => r = some (.ref h.1) ∧ at_ h' a 10 [.int m, .ref h.1, .int (nI cap)] ∧ at_ h' h.1 103 (pl (gr cap) xs) ∧ Chg h h' (fun b => b = a) ∧ h'.1 = h.1 + 1 ∧ h'.2.1 = h.2.1 - 1 ∧ h'.2.2.1 = h.2.2.1 - gr cap) := by
  have hg : cap < gr cap ∧ gr cap ≤ 6001 ∧ 10 ≤ gr cap + 9 := by
    unfold gr
    split <;> (try split) <;> omega
  refine M25 ⟨_, _, ha, rfl, ⟨_, ha⟩, fun r h' => r = some (.ref h.1) ∧ at_ h' a 10 [.int m, .ref h.1, .int (nI cap)] ∧ at_ h' h.1 103 (pl (gr cap) xs) ∧ Chg h h' (fun b => b = a) ∧ h'.1 = h.1 + 1 ∧ h'.2.1 = h.2.1 - 1 ∧ h'.2.2.1 = h.2.2.1 - gr cap, ?_, ?_⟩
  · rcases h4 with ⟨h0, he1, h4⟩ | ⟨h0, h4⟩
    · subst h0
      have hx : xs = [] := List.eq_nil_of_length_eq_zero hn
      subst hx
      refine M26 ⟨_, _, ha, rfl, 201, _, h4, Or.inr (Or.inr ⟨rfl, he1, rfl⟩), fun z => absurd z (by decide), fun _ => ⟨_, _, ha, rfl, fun _ => ?_, fun z => absurd he1 z⟩⟩
      refine B26_45 ⟨by decide, r1, ?_, ?_, ?_⟩
      · show (10 : Nat) ≤ h.2.2.1
        omega
      · show (10 : Nat) ≤ 100000
        decide
      · rintro b1 h2 rfl rfl
        refine ⟨_, at_old hf ha (by decide), Nat.le_of_ble_eq_true rfl, trivial, ?_⟩
        rintro h4' rfl
        have hne : a ≠ h.1 := Nat.ne_of_lt (hf.lt ha (by decide))
        refine ⟨rfl, at_s, at_n at_new (Ne.symm hne), ?_, rfl, rfl, rfl⟩
        refine ⟨Nat.le_succ _, (hf.new).set (at_old hf ha (by decide)) (by decide), fun b hb hs => ?_⟩
        show ah_up (ah_up h.2.2.2 h.1 _) a _ b = _
        unfold ah_up
        rw [if_neg hs, if_neg (Nat.ne_of_lt hb)]
    · have hlen : (pl cap xs).length = cap := pl_len (by omega)
      have e1 : nI cap + 1 = nI (cap + 1) := nI_1 cap
      rw [e1]
      refine M26 ⟨_, _, ha, rfl, 103, _, h4, Or.inl ⟨by decide, by decide⟩, fun _ => ?_, fun z => absurd (show (0 : Int32) < Int32.ofNat (pl cap xs).length by rw [hlen]; exact nI_lt (a := 0) h0 (by omega)) z⟩
      rw [hlen]
      refine B26_20 ⟨_, k_newLen h0 hc, ?_⟩
      rintro r h' ⟨rfl, rfl⟩
      refine ⟨_, rfl, _, _, ha, rfl, _, k_copyOf hf h4 he hn h0 hg.1 (by omega) r1 (by omega), ?_⟩
      rintro r h'' ⟨rfl, g1, g2, g3, g4, g5⟩
      have ha2 := g2.at hf ha (by decide) (fun z => z)
      have hne : a ≠ h'.1 := Nat.ne_of_lt (hf.lt ha (by decide))
      refine ⟨_, rfl, _, ha2, Nat.le_of_ble_eq_true rfl, trivial, ?_⟩
      rintro h5 rfl
      refine ⟨rfl, at_s, at_n g1 (Ne.symm hne), ?_, g3, g4, g5⟩
      exact (g2.mono (fun _ _ z => z.elim)).trans (Chg.set g2.2.1 ha2 (by decide) rfl)
  · rintro r h' ⟨rfl, hq⟩
    exact ⟨_, rfl, rfl, hq⟩
end
section
/-- what a list's method leaves: the list ys, perhaps with new places -/
def LPost (gc : Nat → Nat) (h : AH) (a e cap n : Nat) (ys : List Nat) (h' : AH) : Prop := ∃ e' cap' : Nat, Lst gc h' a e' cap' ys ∧ Chg h h' (fun b => b = a ∨ (b = e ∧ 0 < cap)) ∧
  ((e' = e ∧ cap' = cap ∧ h'.1 = h.1 ∧ h'.2.1 = h.2.1 ∧ h'.2.2.1 = h.2.2.1) ∨ (e' = h.1 ∧ cap' = gr cap ∧ cap = n ∧ h'.1 = h.1 + 1 ∧ h'.2.1 + 1 = h.2.1 ∧ h'.2.2.1 + gr cap = h.2.2.1))
theorem pl_set {c : Nat} {xs : List Nat} {y : Nat} (h : xs.length < c) : (pl c xs).set xs.length (.ref y) = pl c (xs ++ [y]) := by
  have e1 : (xs.map Value.ref).length = xs.length := List.length_map _
  unfold pl
  rw [List.set_append_right _ _ (by rw [e1]; exact Nat.le_refl _), e1, Nat.sub_self, List.length_append, List.map_append, List.append_assoc]
  congr 1
  rw [show c - xs.length = (c - (xs.length + 1)) + 1 by omega, List.replicate_succ]
  rfl
theorem El.one {h : AH} {xs : List Nat} {y t : Nat} {ws : List Value} (he : El h xs) (hy : at_ h y t ws) (ht : asg 103 t = true) : El h (xs ++ [y]) := fun x hx => by
  rcases List.mem_append.mp hx with g | g
  · exact he x g
  · rw [List.mem_singleton.mp g]
    exact ⟨t, ws, hy, ht⟩
theorem El.set {h : AH} {xs : List Nat} {a t : Nat} {vs : List Value} {e : Nat × List Value} (ha : at_ h a t vs) (ht : asg 103 t = false) (he : El h xs) : El (ah_set h a e) xs := fun x hx => by
  obtain ⟨t', ws, h1, h2⟩ := he x hx
  exact ⟨t', ws, at_n h1 (fun z => by subst z; obtain ⟨e1, -⟩ := at_eq ha h1; rw [← e1, ht] at h2; cases h2), h2⟩
theorem k_store {gc : Nat → Nat} {d c : Nat} {h : AH} {a e0 e y ty : Nat} {m : Int32} {xs : List Nat} {wy : List Value} {q : PT} (ha : at_ h a 10 [.int m, .ref e0, .int (nI xs.length)]) (hea : at_ h e 103 (pl c xs)) (hc : xs.length < c) (hc2 : c ≤ 100000) (hy : at_ h y ty wy) (ht : asg 103 ty = true)
    (hq : q none (ah_set (ah_set h e (103, pl c (xs ++ [y]))) a (10, [.int m, .ref e0, .int (nI (xs.length + 1))]))) : TT gc d 24 q 11 [.ref a, .ref y, .ref e, .int (nI xs.length)] [] h := by
  have en : (nI xs.length).toNatClampNeg = xs.length := nI_clamp (by omega)
  refine B24_11 ⟨103, ty, _, wy, hea, hy, ht, nI_pos (by omega), by rw [en, pl_len (by omega)]; exact hc, ?_⟩
  rintro h3 rfl
  rw [en, pl_set hc]
  refine ⟨_, at_n ha (at_ne ha hea (by decide)), Nat.le_of_ble_eq_true rfl, trivial, ?_⟩
  rintro h7 rfl
  rw [nI_1]
  exact hq
theorem k_add {gc : Nat → Nat} {d : Nat} {h : AH} {a e cap y ty : Nat} {xs : List Nat} {wy : List Value} (hf : Fr h) (hL : Lst gc h a e cap xs) (hc : cap ≤ 2000) (hy : at_ h y ty wy) (ht : asg 103 ty = true) (r1 : 1 ≤ h.2.1) (r2 : 10000 ≤ h.2.2.1) :
    WP gc (d + 6) 23 [.ref a, .ref y] h (fun r h' => r = some (.int 1) ∧ LPost gc h a e cap xs.length (xs ++ [y]) h') := by
  obtain ⟨⟨m, h1⟩, h2, h3, h4, h5⟩ := hL
  have hty := asg_n0 ht
  refine M23 ⟨_, _, h1, rfl, _, h1, Nat.le_of_ble_eq_true rfl, trivial, ?_⟩
  intro hA eA
  have hA1 : at_ hA a 10 [.int (m + 1), .ref e, .int (nI xs.length)] := by rw [eA]; exact at_s
  have hAf : Fr hA := by rw [eA]; exact hf.set h1 (by decide)
  have hAy : at_ hA y ty wy := by rw [eA]; exact at_n hy (at_ne hy h1 hty.2.1)
  have hAe : El hA xs := by rw [eA]; exact h5.set h1 rfl
  have hAc : Chg h hA (fun b => b = a ∨ (b = e ∧ 0 < cap)) := by rw [eA]; exact Chg.set hf h1 (by decide) (Or.inl rfl)
  have t1 : hA.1 = h.1 ∧ hA.2.1 = h.2.1 ∧ hA.2.2.1 = h.2.2.1 := by rw [eA]; exact ⟨rfl, rfl, rfl⟩
  refine ⟨_, _, hA1, rfl, _, _, hA1, rfl, ⟨_, hA1⟩, fun r h' => r = none ∧ LPost gc h a e cap xs.length (xs ++ [y]) h', ?_, ?_⟩
  · have h4A : (cap = 0 ∧ e = gc 1 ∧ at_ hA e 201 []) ∨ (0 < cap ∧ at_ hA e 103 (pl cap xs)) := by
      rcases h4 with ⟨g1, g2, g3⟩ | ⟨g1, g3⟩
      · exact Or.inl ⟨g1, g2, by rw [eA]; exact at_n g3 (at_ne g3 h1 (by decide))⟩
      · exact Or.inr ⟨g1, by rw [eA]; exact at_n g3 (at_ne g3 h1 (by decide))⟩
    -- the array is full: it grows
    have grow : xs.length = cap → (∃ vs6 : List Value, at_ hA a 10 vs6) ∧ ∃ Q3 : PT, WP gc (d + 4) 25 [.ref a] hA Q3 ∧ ∀ (r4 : Option Value) (h5 : AH), Q3 r4 h5 → ∃ b7 : Nat, r4 = some (.ref b7) ∧ TT gc (d + 4) 24 (fun r h' => r = none ∧ LPost gc h a e cap xs.length (xs ++ [y]) h') 11 [.ref a, .ref y, .ref b7, .int (nI xs.length)] [] h5 := by
      intro hfull
      have hA1' := hA1
      rw [hfull] at hA1'
      refine ⟨⟨_, hA1⟩, _, k_grow hAf hA1' hfull (by omega) h4A hAe (by omega) (by omega), ?_⟩
      rintro r hB ⟨rfl, b1, b2, b3, b4, b5, b6⟩
      rw [← hfull] at b1
      have hg : cap < gr cap ∧ gr cap ≤ 4000 ∧ gr cap ≤ hA.2.2.1 := by
        unfold gr
        split <;> (try split) <;> omega
      have hBy : at_ hB y ty wy := b3.at hAf hAy hty.1 (at_ne hy h1 hty.2.1)
      have hBe : El hB xs := El.chg hAf b3 (fun b t ws z hb => by subst z; obtain ⟨e1, -⟩ := at_eq hb hA1; rw [e1]; rfl) hAe
      refine ⟨_, rfl, k_store b1 b2 (by omega) (by omega) hBy ht ⟨rfl, hA.1, gr cap, ⟨⟨m + 1, ?_⟩, ?_, by omega, Or.inr ⟨by omega, at_n at_s (Ne.symm (at_ne b1 b2 (by decide)))⟩, ?_⟩, ?_, ?_⟩⟩
      · rw [List.length_append]
        exact at_s
      · rw [List.length_append]
        show xs.length + 1 ≤ _
        omega
      · exact ((hBe.one hBy ht).set b2 rfl).set (at_n b1 (at_ne b1 b2 (by decide))) rfl
      · have c1 : Chg h hB (fun b => b = a ∨ (b = e ∧ 0 < cap)) := hAc.trans (b3.mono (fun b _ z => Or.inl z))
        have hnew : ¬ (hA.1 < h.1) := by omega
        refine ⟨c1.1, (c1.2.1.set b2 (by decide)).set (at_n b1 (at_ne b1 b2 (by decide))) (by decide), fun b hb hs => ?_⟩
        show ah_up (ah_up hB.2.2.2 hA.1 _) a _ b = _
        unfold ah_up
        rw [if_neg (show ¬ b = a from fun z => hs (Or.inl z)), if_neg (show ¬ b = hA.1 by omega)]
        exact c1.2.2 b hb hs
      · exact Or.inr ⟨t1.1, rfl, hfull.symm, by show hB.1 = _; omega, by show hB.2.1 + 1 = _; omega, by show hB.2.2.1 + _ = _; omega⟩
    rcases h4A with ⟨g1, g2, g3⟩ | ⟨g1, g3⟩
    · refine M24 ⟨201, [], g3, Or.inr (Or.inr ⟨rfl, g2, rfl⟩), fun z => ?_, fun _ => grow (by omega)⟩
      exfalso
      apply z
      rw [show xs.length = 0 by omega]
      rfl
    · have hlen : (pl cap xs).length = cap := pl_len h2
      refine M24 ⟨103, _, g3, Or.inl ⟨by decide, by decide⟩, fun z => ?_, fun z => ?_⟩
      · rw [hlen] at z
        have hlt : xs.length < cap := by
          apply Nat.lt_of_le_of_ne h2
          intro z2
          apply z
          rw [z2]
          rfl
        refine k_store hA1 g3 hlt (by omega) hAy ht ⟨rfl, e, cap, ⟨⟨m + 1, ?_⟩, ?_, h3, Or.inr ⟨g1, at_n at_s (Ne.symm (at_ne hA1 g3 (by decide)))⟩, ?_⟩, ?_, Or.inl ⟨rfl, rfl, t1.1, t1.2.1, t1.2.2⟩⟩
        · rw [List.length_append]
          exact at_s
        · rw [List.length_append]
          exact hlt
        · exact ((hAe.one hAy ht).set g3 rfl).set (at_n hA1 (at_ne hA1 g3 (by decide))) rfl
        · have c2 : Chg hA (ah_set hA e (103, pl cap (xs ++ [y]))) (fun b => b = a ∨ (b = e ∧ 0 < cap)) := Chg.set hAf g3 (by decide) (Or.inr ⟨rfl, g1⟩)
          exact (hAc.trans c2).trans (Chg.set c2.2.1 (at_n hA1 (at_ne hA1 g3 (by decide))) (by decide) (Or.inl rfl))
      · rw [hlen] at z
        exact grow ((nI_eq (by omega) (by omega)).mp z)
  · rintro r h' ⟨rfl, hq⟩
    exact ⟨rfl, Or.inr rfl, rfl, hq⟩
end
section
theorem pl_get {c : Nat} {xs : List Nat} (h : xs.length ≤ c) (j : Nat) : (pl c xs)[j]? = if hj : j < xs.length then some (.ref xs[j]) else if j < c then some .null else none := by
  by_cases hj : j < xs.length
  · rw [dif_pos hj]
    exact pl_at hj
  · rw [dif_neg hj]
    unfold pl
    rw [List.getElem?_append_right (by rw [List.length_map]; omega), List.getElem?_replicate, List.length_map]
    by_cases h2 : j < c
    · rw [if_pos h2, if_pos (by omega)]
    · rw [if_neg h2, if_neg (by omega)]
theorem pl_V {c : Nat} {xs : List Nat} (h : xs.length ≤ c) (j : Nat) : vp_V (pl c xs) j = if hj : j < xs.length then .ref xs[j] else .null := by
  unfold vp_V
  rw [List.getD_eq_getElem?_getD, pl_get h]
  by_cases hj : j < xs.length
  · rw [dif_pos hj, dif_pos hj]; rfl
  · rw [dif_neg hj, dif_neg hj]
    split <;> rfl
theorem cpyL_get {v0 v1 : List Value} {sp dp n : Nat} (j : Nat) : (cpyL v0 v1 sp dp n)[j]? = if j < v1.length then some (va_cpy (vp_V v0) (vp_V v1) sp dp n j) else none := by
  unfold cpyL
  rw [List.getElem?_map]
  by_cases hj : j < v1.length
  · rw [if_pos hj, List.getElem?_range hj]; rfl
  · rw [if_neg hj, List.getElem?_eq_none (by rw [List.length_range]; omega)]; rfl
theorem rm_pl {c i : Nat} {xs : List Nat} (hi : i < xs.length) (hc : xs.length ≤ c) : (cpyL (pl c xs) (pl c xs) (i + 1) i (xs.length - 1 - i)).set (xs.length - 1) .null = pl c (xs.eraseIdx i) := by
  have hl : (pl c xs).length = c := pl_len hc
  have he : (xs.eraseIdx i).length = xs.length - 1 := List.length_eraseIdx_of_lt hi
  apply List.ext_getElem?
  intro j
  rw [pl_get (by omega), List.getElem?_set, cpyL_len, hl, cpyL_get, hl]
  by_cases h1 : xs.length - 1 = j
  · subst h1
    rw [if_pos rfl, if_pos (by omega), dif_neg (by omega)]
  · rw [if_neg h1]
    by_cases h2 : j < xs.length - 1
    · rw [if_pos (by omega), dif_pos (by omega)]
      congr 1
      by_cases h3 : i ≤ j
      · rw [pk_cpy_in h3 (by omega), pl_V hc, dif_pos (by omega)]
        congr 1
        rw [List.getElem_eraseIdx_of_ge (by omega) h3]
        congr 1
        omega
      · rw [pk_cpy_out (Or.inl (by omega)), pl_V hc, dif_pos (by omega)]
        congr 1
        rw [List.getElem_eraseIdx_of_lt (by omega) (by omega)]
    · rw [dif_neg (by omega)]
      by_cases h4 : j < c
      · rw [if_pos h4, if_pos h4, pk_cpy_out (Or.inr (by omega)), pl_V hc, dif_neg (by omega)]
      · rw [if_neg h4, if_neg h4]
theorem rm_pl1 {c : Nat} {xs : List Nat} (hi : 0 < xs.length) (hc : xs.length ≤ c) : (pl c xs).set (xs.length - 1) .null = pl c (xs.eraseIdx (xs.length - 1)) := by
  rw [← rm_pl (by omega) hc]
  congr 1
  apply List.ext_getElem?
  intro j
  rw [cpyL_get, pl_len hc, pl_get hc]
  by_cases h4 : j < c
  · rw [if_pos h4, pk_cpy_out (by omega), pl_V hc]
    by_cases hj : j < xs.length
    · rw [dif_pos hj, dif_pos hj, if_pos h4]
    · rw [dif_neg hj, dif_neg hj, if_pos h4]
  · rw [if_neg h4, dif_neg (by omega), if_neg h4]
theorem El.sub {h : AH} {xs ys : List Nat} (he : El h xs) (hs : ∀ y ∈ ys, y ∈ xs) : El h ys := fun y hy => he y (hs y hy)
theorem mem_erase {xs : List Nat} {i y : Nat} (h : y ∈ xs.eraseIdx i) : y ∈ xs := List.mem_of_mem_eraseIdx h
theorem k_remove {gc : Nat → Nat} {d i : Nat} {h : AH} {a e cap : Nat} {xs : List Nat} (hf : Fr h) (hL : Lst gc h a e cap xs) (hi : i < xs.length) :
    WP gc (d + 3) 32 [.ref a, .int (nI i)] h (fun r h' => r = some (.ref xs[i]) ∧ Lst gc h' a e cap (xs.eraseIdx i) ∧ Chg h h' (fun b => b = a ∨ (b = e ∧ 0 < cap)) ∧ h'.1 = h.1 ∧ h'.2.1 = h.2.1 ∧ h'.2.2.1 = h.2.2.1) := by
  obtain ⟨⟨m, h1⟩, h2, h3, h4, h5⟩ := hL
  have hc0 : 0 < cap := by omega
  have h4 : at_ h e 103 (pl cap xs) := by
    rcases h4 with ⟨z, -⟩ | ⟨-, z⟩
    · omega
    · exact z
  have ei : (nI i).toNatClampNeg = i := nI_clamp (by omega)
  refine M32 ⟨_, _, h1, rfl, _, k_chk (n := xs.length) hi (by omega), ?_⟩
  rintro r h0 ⟨rfl, rfl⟩
  refine ⟨_, rfl, _, _, h1, rfl, 103, _, _, h4, rfl, nI_pos (by omega), by rw [ei]; exact pl_at hi, ⟨_, h1⟩, fun r h' => r = none ∧ Lst gc h' a e cap (xs.eraseIdx i) ∧ Chg h0 h' (fun b => b = a ∨ (b = e ∧ 0 < cap)) ∧ h'.1 = h0.1 ∧ h'.2.1 = h0.2.1 ∧ h'.2.2.1 = h0.2.2.1, ?_, ?_⟩
  · refine M33 ⟨_, _, h1, rfl, _, h1, Nat.le_of_ble_eq_true rfl, trivial, ?_⟩
    intro hA eA
    have hA1 : at_ hA a 10 [.int (m + 1), .ref e, .int (nI xs.length)] := by rw [eA]; exact at_s
    have hAf : Fr hA := by rw [eA]; exact hf.set h1 (by decide)
    have hAe : El hA xs := by rw [eA]; exact h5.set h1 rfl
    have hAc : Chg h0 hA (fun b => b = a ∨ (b = e ∧ 0 < cap)) := by rw [eA]; exact Chg.set hf h1 (by decide) (Or.inl rfl)
    have t1 : hA.1 = h0.1 ∧ hA.2.1 = h0.2.1 ∧ hA.2.2.1 = h0.2.2.1 := by rw [eA]; exact ⟨rfl, rfl, rfl⟩
    have hA4 : at_ hA e 103 (pl cap xs) := by rw [eA]; exact at_n h4 (at_ne h4 h1 (by decide))
    have e1 : nI xs.length - 1 = nI (xs.length - 1) := by
      have := nI_pred (xs.length - 1)
      rw [show xs.length - 1 + 1 = xs.length by omega] at this
      exact this
    have en : (nI (xs.length - 1)).toNatClampNeg = xs.length - 1 := nI_clamp (by omega)
    -- the last step, from any array that comes to it
    have last : ∀ (hB : AH) (vs : List Value), at_ hB a 10 [.int (m + 1), .ref e, .int (nI xs.length)] → at_ hB e 103 vs → vs.length = cap → vs.set (xs.length - 1) .null = pl cap (xs.eraseIdx i) → Fr hB → El hB xs → Chg h0 hB (fun b => b = a ∨ (b = e ∧ 0 < cap)) → hB.1 = h0.1 ∧ hB.2.1 = h0.2.1 ∧ hB.2.2.1 = h0.2.2.1 →
        TT gc (d + 1) 33 (fun r h' => r = none ∧ Lst gc h' a e cap (xs.eraseIdx i) ∧ Chg h0 h' (fun b => b = a ∨ (b = e ∧ 0 < cap)) ∧ h'.1 = h0.1 ∧ h'.2.1 = h0.2.1 ∧ h'.2.2.1 = h0.2.2.1) 34 [.ref a, .ref e, .int (nI i), .int (nI (xs.length - 1))] [] hB := by
      intro hB vs b1 b2 b3 b4 b5 b6 b7 b8
      refine B33_34 ⟨_, b1, Nat.le_of_ble_eq_true rfl, trivial, ?_⟩
      intro hC eC
      have hC1 : at_ hC a 10 [.int (m + 1), .ref e, .int (nI (xs.length - 1))] := by rw [eC]; exact at_s
      have hC2 : at_ hC e 103 vs := by rw [eC]; exact at_n b2 (at_ne b2 b1 (by decide))
      have hCf : Fr hC := by rw [eC]; exact b5.set b1 (by decide)
      have hCc : Chg h0 hC (fun b => b = a ∨ (b = e ∧ 0 < cap)) := by rw [eC]; exact b7.trans (Chg.set b5 b1 (by decide) (Or.inl rfl))
      refine ⟨103, vs, hC2, rfl, nI_pos (by omega), by rw [en, b3]; omega, ?_⟩
      rintro hD rfl
      rw [en, b4]
      have hle : (xs.eraseIdx i).length = xs.length - 1 := List.length_eraseIdx_of_lt hi
      refine ⟨rfl, ⟨⟨m + 1, ?_⟩, by omega, h3, Or.inr ⟨hc0, at_s⟩, ?_⟩, hCc.trans (Chg.set hCf hC2 (by decide) (Or.inr ⟨rfl, hc0⟩)), ?_⟩
      · rw [hle]
        exact at_n hC1 (at_ne hC1 hC2 (by decide))
      · have hCe : El hC xs := by rw [eC]; exact b6.set b1 rfl
        exact (hCe.set hC2 rfl).sub (fun y hy => mem_erase hy)
      · rw [eC]
        exact b8
    refine ⟨_, _, hA1, rfl, ?_⟩
    rw [e1]
    refine ⟨fun z => ?_, fun z => ?_⟩
    · have hie : i = xs.length - 1 := by
        have := (nI_leI (a := xs.length - 1) (b := i) (by omega) (by omega)).mp z
        omega
      subst hie
      exact last hA _ hA1 hA4 (pl_len h2) (rm_pl1 (by omega) h2) hAf hAe hAc t1
    · have hlt : i < xs.length - 1 := by
        apply Nat.lt_of_not_le
        intro z2
        exact z (nI_le z2 (by omega))
      have e2 : nI (xs.length - 1) - nI i = nI (xs.length - 1 - i) := pk_sub (by omega)
      have e3 : (nI (xs.length - 1 - i)).toNatClampNeg = xs.length - 1 - i := nI_clamp (by omega)
      have e4 : (nI (i + 1)).toNatClampNeg = i + 1 := nI_clamp (by omega)
      rw [nI_1, e2]
      refine ⟨_, _, hA4, hA4, nI_pos (by omega), nI_pos (by omega), nI_pos (by omega), by rw [e3, e4, pl_len h2]; omega, by rw [e3, ei, pl_len h2]; omega, by rw [pl_len h2]; omega, pl_el hAe, ?_⟩
      intro hB eB
      rw [e3, e4, ei] at eB
      refine last hB _ ?_ (by rw [eB]; exact at_s) (by rw [cpyL_len, pl_len h2]) (rm_pl hi h2) ?_ ?_ ?_ ?_
      · rw [eB]; exact at_n hA1 (at_ne hA1 hA4 (by decide))
      · rw [eB]; exact hAf.set hA4 (by decide)
      · rw [eB]; exact hAe.set hA4 rfl
      · rw [eB]; exact hAc.trans (Chg.set hAf hA4 (by decide) (Or.inr ⟨rfl, hc0⟩))
      · rw [eB]; exact t1
  · rintro r h' ⟨rfl, hq⟩
    exact ⟨rfl, rfl, hq⟩
theorem k_init {gc : Nat → Nat} {d : Nat} {h : AH} {a : Nat} (hf : Fr h) (ha : at_ h a 10 [.int 0, .null, .int 0]) (h1 : at_ h (gc 1) 201 []) :
    WP gc (d + 3) 1 [.ref a] h (fun r h' => r = none ∧ Lst gc h' a (gc 1) 0 [] ∧ Chg h h' (fun b => b = a) ∧ h'.1 = h.1 ∧ h'.2.1 = h.2.1 ∧ h'.2.2.1 = h.2.2.1) := by
  refine M1 ⟨fun r h' => r = none ∧ h' = ah_set h a (10, [.int 0, .null, .int 0]), M2 ⟨fun r h' => r = none ∧ h' = h, M3 ⟨rfl, rfl⟩, ?_⟩, ?_⟩
  · rintro r h' ⟨rfl, rfl⟩
    refine ⟨rfl, _, ha, Nat.le_of_ble_eq_true rfl, trivial, ?_⟩
    rintro h5 rfl
    exact ⟨rfl, rfl⟩
  · rintro r h' ⟨rfl, rfl⟩
    refine ⟨rfl, _, at_s, Nat.le_of_ble_eq_true rfl, trivial, ?_⟩
    rintro h5 rfl
    refine ⟨rfl, ⟨⟨0, at_s⟩, Nat.le_refl _, by decide, Or.inl ⟨rfl, rfl, at_n (at_n h1 (at_ne h1 ha (by decide))) (at_ne h1 ha (by decide))⟩, fun x hx => by cases hx⟩, ?_, rfl, rfl, rfl⟩
    exact (Chg.set (S := fun b => b = a) hf ha (by decide) rfl).trans (Chg.set (S := fun b => b = a) (t := 10) (hf.set ha (by decide)) at_s (by decide) rfl)
end
section
/-- y put in at place i -/
def ins (xs : List Nat) (i y : Nat) : List Nat := xs.take i ++ y :: xs.drop i
theorem ins_len {xs : List Nat} {i y : Nat} (hi : i ≤ xs.length) : (ins xs i y).length = xs.length + 1 := by
  unfold ins
  rw [List.length_append, List.length_cons, List.length_take, List.length_drop]
  omega
theorem mem_ins {xs : List Nat} {i y x : Nat} (h : x ∈ ins xs i y) : x = y ∨ x ∈ xs := by
  unfold ins at h
  rcases List.mem_append.mp h with g | g
  · exact Or.inr (List.mem_of_mem_take g)
  · rcases List.mem_cons.mp g with g | g
    · exact Or.inl g
    · exact Or.inr (List.mem_of_mem_drop g)
theorem ins_pl {c i y : Nat} {xs : List Nat} (hi : i ≤ xs.length) (hc : xs.length < c) : (cpyL (pl c xs) (pl c xs) i (i + 1) (xs.length - i)).set i (.ref y) = pl c (ins xs i y) := by
  have hl : (pl c xs).length = c := pl_len (by omega)
  have he := ins_len (y := y) hi
  apply List.ext_getElem?
  intro j
  rw [pl_get (by omega), List.getElem?_set, cpyL_len, hl, cpyL_get, hl]
  by_cases h1 : i = j
  · subst h1
    rw [if_pos rfl, if_pos (by omega), dif_pos (by omega)]
    congr 2
    unfold ins
    rw [List.getElem_append_right (by rw [List.length_take]; omega)]
    simp [Nat.min_eq_left hi]
  · rw [if_neg h1]
    by_cases h2 : j < xs.length + 1
    · rw [if_pos (by omega), dif_pos (by omega)]
      congr 1
      by_cases h3 : i < j
      · rw [pk_cpy_in (by omega) (by omega), pl_V (by omega), dif_pos (by omega)]
        congr 1
        unfold ins
        rw [List.getElem_append_right (by rw [List.length_take]; omega)]
        simp only [List.length_take, Nat.min_eq_left hi]
        rw [List.getElem_cons]
        rw [dif_neg (by omega), List.getElem_drop]
        congr 1 <;> omega
      · rw [pk_cpy_out (Or.inl (by omega)), pl_V (by omega), dif_pos (by omega)]
        congr 1
        unfold ins
        rw [List.getElem_append_left (by rw [List.length_take]; omega), List.getElem_take]
    · rw [dif_neg (by omega)]
      by_cases h4 : j < c
      · rw [if_pos h4, if_pos h4, pk_cpy_out (Or.inr (by omega)), pl_V (by omega), dif_neg (by omega)]
      · rw [if_neg h4, if_neg h4]
theorem k_insert {gc : Nat → Nat} {d i : Nat} {h : AH} {a e cap y ty : Nat} {xs : List Nat} {wy : List Value} (hf : Fr h) (hL : Lst gc h a e cap xs) (hc : cap ≤ 2000) (hi : i ≤ xs.length) (hy : at_ h y ty wy) (ht : asg 103 ty = true) (r1 : 1 ≤ h.2.1) (r2 : 10000 ≤ h.2.2.1) :
    WP gc (d + 5) 52 [.ref a, .int (nI i), .ref y] h (fun r h' => r = none ∧ LPost gc h a e cap xs.length (ins xs i y) h') := by
  obtain ⟨⟨m, h1⟩, h2, h3, h4, h5⟩ := hL
  have hty := asg_n0 ht
  have ei : (nI i).toNatClampNeg = i := nI_clamp (by omega)
  have en1 : nI i + 1 = nI (i + 1) := nI_1 i
  have ei1 : (nI (i + 1)).toNatClampNeg = i + 1 := nI_clamp (by omega)
  have e2 : nI xs.length - nI i = nI (xs.length - i) := pk_sub hi
  have e3 : (nI (xs.length - i)).toNatClampNeg = xs.length - i := nI_clamp (by omega)
  refine M52 ⟨⟨_, h1⟩, fun r h' => r = none ∧ h' = h, ?_, ?_⟩
  · refine M53 ⟨_, _, h1, rfl, fun z => absurd z (nI_nlt hi (by omega)), fun _ => ⟨fun _ => B53_25 ⟨rfl, rfl⟩, fun z => absurd (nI_pos' (by omega)) z⟩⟩
  rintro r hz ⟨rfl, rfl⟩
  refine ⟨rfl, _, _, h1, rfl, _, h1, Nat.le_of_ble_eq_true rfl, trivial, ?_⟩
  intro hA eA
  have hA1 : at_ hA a 10 [.int (m + 1), .ref e, .int (nI xs.length)] := by rw [eA]; exact at_s
  have hAf : Fr hA := by rw [eA]; exact hf.set h1 (by decide)
  have hAy : at_ hA y ty wy := by rw [eA]; exact at_n hy (at_ne hy h1 hty.2.1)
  have hAe : El hA xs := by rw [eA]; exact h5.set h1 rfl
  have hAc : Chg hz hA (fun b => b = a ∨ (b = e ∧ 0 < cap)) := by rw [eA]; exact Chg.set hf h1 (by decide) (Or.inl rfl)
  have t1 : hA.1 = hz.1 ∧ hA.2.1 = hz.2.1 ∧ hA.2.2.1 = hz.2.2.1 := by rw [eA]; exact ⟨rfl, rfl, rfl⟩
  have h4A : (cap = 0 ∧ e = gc 1 ∧ at_ hA e 201 []) ∨ (0 < cap ∧ at_ hA e 103 (pl cap xs)) := by
    rcases h4 with ⟨g1, g2, g3⟩ | ⟨g1, g3⟩
    · exact Or.inl ⟨g1, g2, by rw [eA]; exact at_n g3 (at_ne g3 h1 (by decide))⟩
    · exact Or.inr ⟨g1, by rw [eA]; exact at_n g3 (at_ne g3 h1 (by decide))⟩
  -- the stores, in any array with room
  have last : ∀ (hB : AH) (e' c' : Nat), at_ hB a 10 [.int (m + 1), .ref e', .int (nI xs.length)] → at_ hB e' 103 (pl c' xs) → xs.length < c' → c' ≤ 4000 → Fr hB → El hB xs → at_ hB y ty wy → Chg hz hB (fun b => b = a ∨ (b = e ∧ 0 < cap)) → (hz.1 ≤ e' ∨ (e' = e ∧ 0 < cap)) →
      ((e' = e ∧ c' = cap ∧ hB.1 = hz.1 ∧ hB.2.1 = hz.2.1 ∧ hB.2.2.1 = hz.2.2.1) ∨ (e' = hz.1 ∧ c' = gr cap ∧ cap = xs.length ∧ hB.1 = hz.1 + 1 ∧ hB.2.1 + 1 = hz.2.1 ∧ hB.2.2.1 + gr cap = hz.2.2.1)) →
      TT gc (d + 4) 52 (fun r h' => r = none ∧ LPost gc hz a e cap xs.length (ins xs i y) h') 38 [.ref a, .int (nI i), .ref y, .int (nI xs.length), .ref e'] [] hB := by
    intro hB e' c' b1 b2 b3 b4 b5 b6 b7 b8 b9 b10
    have hl : (pl c' xs).length = c' := pl_len (by omega)
    refine B52_38 ?_
    rw [en1, e2]
    refine ⟨_, _, b2, b2, nI_pos (by omega), nI_pos (by omega), nI_pos (by omega), by rw [ei, e3, hl]; omega, by rw [ei1, e3, hl]; omega, by omega, pl_el b6, ?_⟩
    intro hC eC
    rw [ei, ei1, e3] at eC
    have hC1 : at_ hC a 10 [.int (m + 1), .ref e', .int (nI xs.length)] := by rw [eC]; exact at_n b1 (at_ne b1 b2 (by decide))
    have hC2 : at_ hC e' 103 (cpyL (pl c' xs) (pl c' xs) i (i + 1) (xs.length - i)) := by rw [eC]; exact at_s
    have hCy : at_ hC y ty wy := by rw [eC]; exact at_n b7 (at_ne b7 b2 hty.2.2.1)
    have hCf : Fr hC := by rw [eC]; exact b5.set b2 (by decide)
    have hCe : El hC xs := by rw [eC]; exact b6.set b2 rfl
    refine ⟨103, ty, _, wy, hC2, hCy, ht, nI_pos (by omega), by rw [ei, cpyL_len, hl]; omega, ?_⟩
    intro hD eD
    rw [ei, ins_pl hi b3] at eD
    have hD1 : at_ hD a 10 [.int (m + 1), .ref e', .int (nI xs.length)] := by rw [eD]; exact at_n hC1 (at_ne hC1 hC2 (by decide))
    have hD2 : at_ hD e' 103 (pl c' (ins xs i y)) := by rw [eD]; exact at_s
    have hDf : Fr hD := by rw [eD]; exact hCf.set hC2 (by decide)
    have hDe : El hD (ins xs i y) := by
      have hDe0 : El hD xs := by rw [eD]; exact hCe.set hC2 rfl
      intro x hx
      rcases mem_ins hx with g | g
      · subst g
        exact ⟨ty, wy, by rw [eD]; exact at_n hCy (at_ne hCy hC2 hty.2.2.1), ht⟩
      · exact hDe0 x g
    refine ⟨_, hD1, Nat.le_of_ble_eq_true rfl, trivial, ?_⟩
    rintro hE rfl
    have hil := ins_len (y := y) hi
    refine ⟨rfl, e', c', ⟨⟨m + 1, ?_⟩, by omega, b4, Or.inr ⟨by omega, at_n hD2 (Ne.symm (at_ne hD1 hD2 (by decide)))⟩, hDe.set hD1 rfl⟩, ?_, ?_⟩
    · rw [hil, ← nI_1]
      exact at_s
    · refine ⟨?_, hDf.set hD1 (by decide), fun b hb hs => ?_⟩
      · show hz.1 ≤ hD.1
        rw [eD, eC]
        exact b8.1
      · show ah_up hD.2.2.2 a _ b = _
        unfold ah_up
        rw [if_neg (show ¬ b = a from fun z => hs (Or.inl z)), eD]
        have hbe : b ≠ e' := by
          rintro rfl
          rcases b9 with z | z
          · omega
          · exact hs (Or.inr z)
        show ah_up hC.2.2.2 e' _ b = _
        unfold ah_up
        rw [if_neg hbe, eC]
        show ah_up hB.2.2.2 e' _ b = _
        unfold ah_up
        rw [if_neg hbe]
        exact b8.2.2 b hb hs
    · have f1 : hD.1 = hB.1 ∧ hD.2.1 = hB.2.1 ∧ hD.2.2.1 = hB.2.2.1 := by rw [eD, eC]; exact ⟨rfl, rfl, rfl⟩
      show (e' = e ∧ c' = cap ∧ hD.1 = hz.1 ∧ hD.2.1 = hz.2.1 ∧ hD.2.2.1 = hz.2.2.1) ∨ (e' = hz.1 ∧ c' = gr cap ∧ cap = xs.length ∧ hD.1 = hz.1 + 1 ∧ hD.2.1 + 1 = hz.2.1 ∧ hD.2.2.1 + gr cap = hz.2.2.1)
      rw [f1.1, f1.2.1, f1.2.2]
      exact b10
  have grow : xs.length = cap → (∃ vs6 : List Value, at_ hA a 10 vs6) ∧ ∃ Q3 : PT, WP gc (d + 4) 25 [.ref a] hA Q3 ∧ ∀ (r4 : Option Value) (h5 : AH), Q3 r4 h5 → ∃ b7 : Nat, r4 = some (.ref b7) ∧ TT gc (d + 4) 52 (fun r h' => r = none ∧ LPost gc hz a e cap xs.length (ins xs i y) h') 38 [.ref a, .int (nI i), .ref y, .int (nI xs.length), .ref b7] [] h5 := by
    intro hfull
    have hA1' := hA1
    rw [hfull] at hA1'
    refine ⟨⟨_, hA1⟩, _, k_grow hAf hA1' hfull (by omega) h4A hAe (by omega) (by omega), ?_⟩
    rintro r hB ⟨rfl, b1, b2, b3, b4, b5, b6⟩
    rw [← hfull] at b1
    have hg : cap < gr cap ∧ gr cap ≤ 4000 ∧ gr cap ≤ hA.2.2.1 := by
      unfold gr
      split <;> (try split) <;> omega
    have hBy : at_ hB y ty wy := b3.at hAf hAy hty.1 (at_ne hy h1 hty.2.1)
    have hBe : El hB xs := El.chg hAf b3 (fun b t ws z hb => by subst z; obtain ⟨e1, -⟩ := at_eq hb hA1; rw [e1]; rfl) hAe
    exact ⟨_, rfl, last hB hA.1 (gr cap) b1 b2 (by omega) (by omega) b3.2.1 hBe hBy (hAc.trans (b3.mono (fun b _ z => Or.inl z))) (Or.inl (by omega)) (Or.inr ⟨t1.1, rfl, hfull.symm, by omega, by omega, by omega⟩)⟩
  refine ⟨_, _, hA1, rfl, _, _, hA1, rfl, ?_⟩
  rcases h4A with ⟨g1, g2, g3⟩ | ⟨g1, g3⟩
  · refine ⟨201, [], g3, Or.inr (Or.inr ⟨rfl, g2, rfl⟩), fun z => ?_, fun _ => grow (by omega)⟩
    exfalso
    apply z
    rw [show xs.length = 0 by omega]
    rfl
  · have hlen : (pl cap xs).length = cap := pl_len h2
    refine ⟨103, _, g3, Or.inl ⟨by decide, by decide⟩, fun z => ?_, fun z => ?_⟩
    · rw [hlen] at z
      have hlt : xs.length < cap := by
        apply Nat.lt_of_le_of_ne h2
        intro z2
        apply z
        rw [z2]
        rfl
      exact last hA e cap hA1 g3 hlt h3 hAf hAe hAy hAc (Or.inr ⟨rfl, g1⟩) (Or.inl ⟨rfl, rfl, t1⟩)
    · rw [hlen] at z
      exact grow ((nI_eq (by omega) (by omega)).mp z)
end
section
theorem rep_set {k c : Nat} {vs : List Value} (hk : k < c) (hl : vs.length = c) : (List.replicate k Value.null ++ vs.drop k).set k .null = List.replicate (k + 1) Value.null ++ vs.drop (k + 1) := by
  rw [List.set_append_right _ _ (by rw [List.length_replicate]; exact Nat.le_refl _), List.length_replicate, Nat.sub_self, List.replicate_succ', List.append_assoc]
  congr 1
  rw [List.drop_eq_getElem_cons (by omega)]
  rfl
theorem clear_loop {gc : Nat → Nat} {d a e n c : Nat} {q : PT} {vs : List Value} (hl : vs.length = c) (hn : n ≤ c) (hc : c ≤ 4000) : ∀ (r k : Nat), n = k + r → ∀ h : AH, (0 < n → at_ h e 103 (List.replicate k Value.null ++ vs.drop k)) → (∀ h' : AH, (n = 0 → h' = h) → (0 < n → k < n → h' = ah_set h e (103, List.replicate n Value.null ++ vs.drop n)) → (k = n → h' = h) → q none h') →
    TT gc d 38 q 27 [.ref a, .ref e, .int (nI n), .int (nI k)] [] h := by
  intro r
  induction r with
  | zero =>
    intro k hk h _ hq
    refine B38_27 ⟨fun _ => B38_42 (hq h (fun _ => rfl) (fun _ z => by omega) (fun _ => rfl)), fun z => absurd (nI_le (by omega) (by omega)) z⟩
  | succ r ih =>
    intro k hk h hat hq
    have ek : (nI k).toNatClampNeg = k := nI_clamp (by omega)
    have hat := hat (by omega)
    refine B38_27 ⟨fun z => absurd z (nI_ge (by omega) (by omega)), fun _ => ⟨103, _, hat, rfl, nI_pos (by omega), ?_, ?_⟩⟩
    · rw [ek, List.length_append, List.length_replicate, List.length_drop]
      omega
    · intro h3 e3
      rw [ek, rep_set (by omega) hl] at e3
      rw [nI_1]
      refine ih (k + 1) (by omega) h3 (fun _ => by rw [e3]; exact at_s) (fun h' z1 z2 z3 => hq h' (fun z => by omega) (fun _ _ => ?_) (fun z => by omega))
      by_cases hkn : k + 1 = n
      · rw [z3 hkn, e3, hkn]
      · rw [z2 (by omega) (by omega), e3]
        unfold ah_set ah_up
        congr 3
        funext b
        by_cases hb : b = e
        · simp [hb]
        · simp [hb]
theorem pl_nil {c n : Nat} {vs : List Value} (hv : ∀ j, n ≤ j → j < c → vs[j]? = some .null) (hl : vs.length = c) (hn : n ≤ c) : List.replicate n Value.null ++ vs.drop n = pl c [] := by
  unfold pl
  rw [List.map_nil, List.nil_append, List.length_nil, Nat.sub_zero]
  apply List.ext_getElem?
  intro j
  rw [List.getElem?_replicate]
  by_cases hj : j < n
  · rw [List.getElem?_append_left (by rw [List.length_replicate]; exact hj), List.getElem?_replicate, if_pos hj, if_pos (by omega)]
  · rw [List.getElem?_append_right (by rw [List.length_replicate]; omega), List.length_replicate, List.getElem?_drop, show n + (j - n) = j by omega]
    by_cases h2 : j < c
    · rw [if_pos h2, hv j (by omega) h2]
    · rw [if_neg h2, List.getElem?_eq_none (by omega)]
theorem k_clear {gc : Nat → Nat} {d : Nat} {h : AH} {a e cap : Nat} {xs : List Nat} (hf : Fr h) (hL : Lst gc h a e cap xs) :
    WP gc (d + 1) 38 [.ref a] h (fun r h' => r = none ∧ Lst gc h' a e cap [] ∧ Chg h h' (fun b => b = a ∨ (b = e ∧ 0 < cap)) ∧ h'.1 = h.1 ∧ h'.2.1 = h.2.1 ∧ h'.2.2.1 = h.2.2.1) := by
  obtain ⟨⟨m, h1⟩, h2, h3, h4, h5⟩ := hL
  refine M38 ⟨_, _, h1, rfl, _, h1, Nat.le_of_ble_eq_true rfl, trivial, ?_⟩
  intro hA eA
  have hA1 : at_ hA a 10 [.int (m + 1), .ref e, .int (nI xs.length)] := by rw [eA]; exact at_s
  have hAf : Fr hA := by rw [eA]; exact hf.set h1 (by decide)
  have hAc : Chg h hA (fun b => b = a ∨ (b = e ∧ 0 < cap)) := by rw [eA]; exact Chg.set hf h1 (by decide) (Or.inl rfl)
  refine ⟨_, _, hA1, rfl, _, _, hA1, rfl, _, hA1, Nat.le_of_ble_eq_true rfl, trivial, ?_⟩
  intro hB eB
  have hB1 : at_ hB a 10 [.int (m + 1), .ref e, .int 0] := by rw [eB]; exact at_s
  have hBf : Fr hB := by rw [eB]; exact hAf.set hA1 (by decide)
  have hBc : Chg h hB (fun b => b = a ∨ (b = e ∧ 0 < cap)) := by rw [eB]; exact hAc.trans (Chg.set hAf hA1 (by decide) (Or.inl rfl))
  have t1 : hB.1 = h.1 ∧ hB.2.1 = h.2.1 ∧ hB.2.2.1 = h.2.2.1 := by rw [eB, eA]; exact ⟨rfl, rfl, rfl⟩
  have h4B : (cap = 0 ∧ e = gc 1 ∧ at_ hB e 201 []) ∨ (0 < cap ∧ at_ hB e 103 (pl cap xs)) := by
    rcases h4 with ⟨g1, g2, g3⟩ | ⟨g1, g3⟩
    · refine Or.inl ⟨g1, g2, ?_⟩
      rw [eB, eA]
      exact at_n (at_n g3 (at_ne g3 h1 (by decide))) (at_ne g3 h1 (by decide))
    · refine Or.inr ⟨g1, ?_⟩
      rw [eB, eA]
      exact at_n (at_n g3 (at_ne g3 h1 (by decide))) (at_ne g3 h1 (by decide))
  rcases h4B with ⟨g1, g2, g3⟩ | ⟨g1, g3⟩
  · have hx : xs = [] := List.eq_nil_of_length_eq_zero (by omega)
    subst hx
    refine clear_loop (c := 0) (n := 0) (vs := []) rfl (Nat.le_refl _) (by decide) 0 0 rfl hB (fun z => by omega) (fun h' z1 _ _ => ?_)
    rw [z1 rfl]
    exact ⟨rfl, ⟨⟨_, hB1⟩, by simp, h3, Or.inl ⟨g1, g2, g3⟩, fun x hx => by cases hx⟩, hBc, t1⟩
  · have hl : (pl cap xs).length = cap := pl_len h2
    refine clear_loop (c := cap) (n := xs.length) (vs := pl cap xs) hl h2 h3 xs.length 0 (by omega) hB (fun _ => by simpa using g3) (fun h' z1 z2 z3 => ?_)
    by_cases hx : xs.length = 0
    · have hxs : xs = [] := List.eq_nil_of_length_eq_zero hx
      subst hxs
      rw [z1 rfl]
      exact ⟨rfl, ⟨⟨_, hB1⟩, by simp, h3, Or.inr ⟨g1, g3⟩, fun x hx => by cases hx⟩, hBc, t1⟩
    · have e9 := z2 (by omega) (by omega)
      rw [pl_nil (c := cap) (fun j z1 z2 => by rw [pl_get h2, dif_neg (by omega), if_pos z2]) hl h2] at e9
      rw [e9]
      exact ⟨rfl, ⟨⟨_, at_n hB1 (at_ne hB1 g3 (by decide))⟩, by simp, h3, Or.inr ⟨g1, at_s⟩, fun x hx => by cases hx⟩, hBc.trans (Chg.set hBf g3 (by decide) (Or.inr ⟨rfl, g1⟩)), t1⟩
end
section
/-! THE CLASS'S CELLS. A: the addresses that never change: A 0 the broker; A 1, A 2, A 3 its arrays; A (10+e), A (20+q), A (30+c) exchanges, queues, channels; A (40+i) the lists: 0 bindings, 1 letters, 2+q waiting, 8+q rows, 14+c held, 18+c deeds. I: the numbers: 0 lastPlace, 1 routed, 2 lost; 100+10e.. declared, type, durable; 200+10q.. declared, limit, dead, durable; 300+10c.. prefetch, transaction, lastTag. xs: the lists' elements; le, lc: their places. -/
def sumTo (f : Nat → Nat) : Nat → Nat
  | 0 => 0
  | n + 1 => sumTo f n + f n
theorem sumTo_up {f : Nat → Nat} {i v : Nat} : ∀ n, (i < n → sumTo (va_up f i v) n + f i = sumTo f n + v) ∧ (n ≤ i → sumTo (va_up f i v) n = sumTo f n) := by
  intro n
  induction n with
  | zero => exact ⟨fun h => absurd h (Nat.not_lt_zero _), fun _ => rfl⟩
  | succ n ih =>
    refine ⟨fun h => ?_, fun h => ?_⟩
    · show sumTo (va_up f i v) n + va_up f i v n + f i = sumTo f n + f n + v
      by_cases hi : i = n
      · subst hi
        rw [va_up_self, ih.2 (Nat.le_refl _)]
        omega
      · rw [va_up_ne _ _ (Ne.symm hi)]
        have := ih.1 (by omega)
        omega
    · show sumTo (va_up f i v) n + va_up f i v n = sumTo f n + f n
      rw [va_up_ne _ _ (by omega), ih.2 (by omega)]
theorem sumTo_le {f : Nat → Nat} {b : Nat} : ∀ n, (∀ i, i < n → f i ≤ b) → sumTo f n ≤ n * b := by
  intro n
  induction n with
  | zero => intro _; exact Nat.zero_le _
  | succ n ih =>
    intro h
    have h1 := ih (fun i hi => h i (by omega))
    have h2 := h n (by omega)
    show sumTo f n + f n ≤ (n + 1) * b
    rw [Nat.succ_mul]
    omega
def cb (i : Nat) : Nat := if i = 1 then 700 else 100
def sm (lc : Nat → Nat) : Nat := sumTo lc 22
def sm2 (lc : Nat → Nat) : Nat := sumTo (fun i => lc i * lc i) 22
theorem sumTo_two {f : Nat → Nat} {b c : Nat} : ∀ n, (∀ i, i < n → f i ≤ (if i = 1 then c else b)) → b ≤ c → sumTo f n ≤ n * b + (c - b) := by
  intro n
  induction n with
  | zero => intro _ _; exact Nat.zero_le _
  | succ n ih =>
    intro h hbc
    have h2 := h n (by omega)
    show sumTo f n + f n ≤ (n + 1) * b + (c - b)
    rw [Nat.succ_mul]
    by_cases hn : n = 1
    · subst hn
      rw [if_pos rfl] at h2
      have h3 : sumTo f 1 ≤ b := by
        have := h 0 (by omega)
        rw [if_neg (by decide)] at this
        show 0 + f 0 ≤ b
        omega
      omega
    · rw [if_neg hn] at h2
      have h1 := ih (fun i hi => h i (by omega)) hbc
      omega
theorem sm_le {lc : Nat → Nat} (h : ∀ i, i < 22 → lc i ≤ cb i) : sm lc ≤ 2800 := by
  have := sumTo_two (f := lc) (b := 100) (c := 700) 22 (fun i hi => h i hi) (by decide)
  unfold sm
  omega
theorem sm2_le {lc : Nat → Nat} (h : ∀ i, i < 22 → lc i ≤ cb i) : sm2 lc ≤ 700000 := by
  have := sumTo_two (f := fun i => lc i * lc i) (b := 10000) (c := 490000) 22 (fun i hi => by
    have h1 := h i hi
    unfold cb at h1
    by_cases hz : i = 1
    · rw [if_pos hz] at h1 ⊢
      exact Nat.mul_le_mul h1 h1
    · rw [if_neg hz] at h1 ⊢
      exact Nat.mul_le_mul h1 h1) (by decide)
  unfold sm2
  omega
def AOK (A : Nat → Nat) : Prop := (∀ i j, i < 5 → j < 5 → A (10 + i) = A (10 + j) → i = j) ∧ (∀ i j, i < 6 → j < 6 → A (20 + i) = A (20 + j) → i = j) ∧ (∀ i j, i < 4 → j < 4 → A (30 + i) = A (30 + j) → i = j) ∧ ∀ i j, i < 22 → j < 22 → A (40 + i) = A (40 + j) → i = j
/-- the fixed objects -/
def RF (gc : Nat → Nat) (h : AH) (A : Nat → Nat) (I : Nat → Int32) : Prop :=
  at_ h (gc 1) 201 [] ∧ at_ h (A 0) 9 [.ref (A 1), .ref (A 2), .ref (A 3), .ref (A 40), .ref (A 41), .int (I 0), .int (I 1), .int (I 2)] ∧
  at_ h (A 1) 100 [.ref (A 10), .ref (A 11), .ref (A 12), .ref (A 13), .ref (A 14)] ∧ at_ h (A 2) 101 [.ref (A 20), .ref (A 21), .ref (A 22), .ref (A 23), .ref (A 24), .ref (A 25)] ∧ at_ h (A 3) 102 [.ref (A 30), .ref (A 31), .ref (A 32), .ref (A 33)] ∧
  (∀ e, e < 5 → at_ h (A (10 + e)) 6 [.int (I (100 + 10 * e)), .int (I (101 + 10 * e)), .int (I (102 + 10 * e))]) ∧
  (∀ q, q < 6 → at_ h (A (20 + q)) 8 [.int (I (200 + 10 * q)), .int (I (201 + 10 * q)), .int (I (202 + 10 * q)), .int (I (203 + 10 * q)), .ref (A (42 + q)), .ref (A (48 + q))]) ∧
  ∀ c, c < 4 → at_ h (A (30 + c)) 2 [.int (I (300 + 10 * c)), .int (I (301 + 10 * c)), .int (I (302 + 10 * c)), .ref (A (54 + c)), .ref (A (58 + c))]
/-- the lists -/
def RL (gc : Nat → Nat) (h : AH) (A : Nat → Nat) (le lc : Nat → Nat) (xs : Nat → List Nat) : Prop :=
  (∀ i, i < 22 → Lst gc h (A (40 + i)) (le i) (lc i) (xs i) ∧ lc i ≤ cb i) ∧ ∀ i j, i < 22 → j < 22 → 0 < lc i → 0 < lc j → le i = le j → i = j
/-- all of it, with nc cells and ns slots at hand -/
def RS (gc : Nat → Nat) (h : AH) (A : Nat → Nat) (I : Nat → Int32) (xs : Nat → List Nat) (nc ns : Nat) : Prop :=
  AOK A ∧ Fr h ∧ RF gc h A I ∧ ∃ le lc : Nat → Nat, RL gc h A le lc xs ∧ nc ≤ h.2.1 + sm lc ∧ ns ≤ h.2.2.1 + sm2 lc
/-- what a list's method leaves alone -/
def KL (h h' : AH) : Prop := ∀ (b t : Nat) (vs : List Value), t ≠ 0 → t ≠ 10 → t ≠ 103 → at_ h b t vs → at_ h' b t vs
theorem KL.refl {h : AH} : KL h h := fun _ _ _ _ _ _ h => h
theorem KL.trans {h h' h'' : AH} (h1 : KL h h') (h2 : KL h' h'') : KL h h'' := fun b t vs z1 z2 z3 hb => h2 b t vs z1 z2 z3 (h1 b t vs z1 z2 z3 hb)
theorem RF.kl {gc : Nat → Nat} {h h' : AH} {A : Nat → Nat} {I : Nat → Int32} (hR : RF gc h A I) (hk : KL h h') : RF gc h' A I := by
  obtain ⟨h1, h2, h3, h4, h5, h6, h7, h8⟩ := hR
  exact ⟨hk _ _ _ (by decide) (by decide) (by decide) h1, hk _ _ _ (by decide) (by decide) (by decide) h2, hk _ _ _ (by decide) (by decide) (by decide) h3, hk _ _ _ (by decide) (by decide) (by decide) h4, hk _ _ _ (by decide) (by decide) (by decide) h5, fun e he => hk _ _ _ (by decide) (by decide) (by decide) (h6 e he), fun q hq => hk _ _ _ (by decide) (by decide) (by decide) (h7 q hq), fun c hc => hk _ _ _ (by decide) (by decide) (by decide) (h8 c hc)⟩
theorem El.kl {h h' : AH} {xs : List Nat} (he : El h xs) (hk : KL h h') : El h' xs := fun x hx => by
  obtain ⟨t, ws, h1, h2⟩ := he x hx
  have := asg_n0 h2
  exact ⟨t, ws, hk _ _ _ this.1 this.2.1 this.2.2.1 h1, h2⟩
/-- a list stays where neither its cell nor its places were written -/
theorem Lst.keep {gc : Nat → Nat} {h h' : AH} {a e cap : Nat} {xs : List Nat} (hL : Lst gc h a e cap xs) (h1 : ∀ vs, at_ h a 10 vs → at_ h' a 10 vs) (h2 : 0 < cap → ∀ vs, at_ h e 103 vs → at_ h' e 103 vs) (hk : KL h h') : Lst gc h' a e cap xs := by
  obtain ⟨⟨m, g1⟩, g2, g3, g4, g5⟩ := hL
  refine ⟨⟨m, h1 _ g1⟩, g2, g3, ?_, g5.kl hk⟩
  rcases g4 with ⟨z1, z2, z3⟩ | ⟨z1, z3⟩
  · exact Or.inl ⟨z1, z2, hk _ _ _ (by decide) (by decide) (by decide) z3⟩
  · exact Or.inr ⟨z1, h2 z1 _ z3⟩
theorem Lst.tag {gc : Nat → Nat} {h : AH} {a e cap : Nat} {xs : List Nat} (hL : Lst gc h a e cap xs) : (∃ vs, at_ h a 10 vs) ∧ (0 < cap → ∃ vs, at_ h e 103 vs) := by
  obtain ⟨⟨m, g1⟩, g2, g3, g4, g5⟩ := hL
  refine ⟨⟨_, g1⟩, fun z => ?_⟩
  rcases g4 with ⟨z1, -⟩ | ⟨-, z3⟩
  · omega
  · exact ⟨_, z3⟩
theorem Chg.kl {gc : Nat → Nat} {h h' : AH} {a e cap : Nat} {xs : List Nat} (hf : Fr h) (hL : Lst gc h a e cap xs) (hc : Chg h h' (fun b => b = a ∨ (b = e ∧ 0 < cap))) : KL h h' := by
  intro b t vs z1 z2 z3 hb
  refine hc.at hf hb z1 (fun hz => ?_)
  obtain ⟨⟨v1, g1⟩, g2⟩ := hL.tag
  rcases hz with rfl | ⟨rfl, hz⟩
  · exact z2 (at_eq hb g1).1
  · obtain ⟨v2, g2⟩ := g2 hz
    exact z3 (at_eq hb g2).1
/-- one list changed -/
theorem RL.step {gc : Nat → Nat} {h h' : AH} {A le lc : Nat → Nat} {xs : Nat → List Nat} {i e' c' : Nat} {ys : List Nat} (hA : AOK A) (hf : Fr h) (hR : RL gc h A le lc xs) (hi : i < 22) (hc : Chg h h' (fun b => b = A (40 + i) ∨ (b = le i ∧ 0 < lc i))) (hL : Lst gc h' (A (40 + i)) e' c' ys) (hb : c' ≤ cb i) (he : (e' = le i ∧ c' = lc i) ∨ h.1 ≤ e') : RL gc h' A (va_up le i e') (va_up lc i c') (va_up xs i ys) := by
  have hk := Chg.kl hf (hR.1 i hi).1 hc
  refine ⟨fun j hj => ?_, fun j k hj hk2 z1 z2 z3 => ?_⟩
  · by_cases hij : j = i
    · subst hij
      rw [va_up_self, va_up_self, va_up_self]
      exact ⟨hL, hb⟩
    · rw [va_up_ne _ _ hij, va_up_ne _ _ hij, va_up_ne _ _ hij]
      obtain ⟨g1, g2⟩ := hR.1 j hj
      refine ⟨g1.keep (fun vs hv => hc.at hf hv (by decide) (fun z => ?_)) (fun hz vs hv => hc.at hf hv (by decide) (fun z => ?_)) hk, g2⟩
      · rcases z with z | ⟨z, z2⟩
        · exact hij (hA.2.2.2 j i hj hi z)
        · obtain ⟨v2, w2⟩ := (hR.1 i hi).1.tag.2 z2
          rw [z] at hv
          exact absurd (at_eq hv w2).1 (by decide)
      · rcases z with z | ⟨z, z2⟩
        · obtain ⟨v2, w2⟩ := (hR.1 i hi).1.tag.1
          rw [z] at hv
          exact absurd (at_eq hv w2).1 (by decide)
        · exact hij (hR.2 j i hj hi hz z2 z)
  · have lt : ∀ j, j < 22 → 0 < lc j → le j < h.1 := fun j hj hz => by
      obtain ⟨v2, w2⟩ := (hR.1 j hj).1.tag.2 hz
      exact hf.lt w2 (by decide)
    by_cases h1 : j = i <;> by_cases h2 : k = i
    · omega
    · subst h1
      rw [va_up_self, va_up_ne _ _ h2] at z3
      rw [va_up_ne _ _ h2] at z2
      have := lt k hk2 z2
      rcases he with ⟨he, he2⟩ | he
      · rw [va_up_self, he2] at z1
        exact hR.2 j k hj hk2 z1 z2 (by rw [← he]; exact z3)
      · omega
    · subst h2
      rw [va_up_self, va_up_ne _ _ h1] at z3
      rw [va_up_ne _ _ h1] at z1
      have := lt j hj z1
      rcases he with ⟨he, he2⟩ | he
      · rw [va_up_self, he2] at z2
        exact hR.2 j k hj hk2 z1 z2 (by rw [← he]; exact z3)
      · omega
    · rw [va_up_ne _ _ h1, va_up_ne _ _ h2] at z3
      rw [va_up_ne _ _ h1] at z1
      rw [va_up_ne _ _ h2] at z2
      exact hR.2 j k hj hk2 z1 z2 z3
theorem sm_up {lc : Nat → Nat} {i c : Nat} (hi : i < 22) : sm (va_up lc i c) + lc i = sm lc + c := (sumTo_up 22).1 hi
theorem sm2_up {lc : Nat → Nat} {i c : Nat} (hi : i < 22) : sm2 (va_up lc i c) + lc i * lc i = sm2 lc + c * c := by
  unfold sm2
  have h1 : (fun j => va_up lc i c j * va_up lc i c j) = va_up (fun j => lc j * lc j) i (c * c) := by
    funext j
    by_cases hj : j = i
    · subst hj; rw [va_up_self, va_up_self]
    · rw [va_up_ne _ _ hj, va_up_ne _ _ hj]
  rw [h1]
  exact (sumTo_up (f := fun j => lc j * lc j) 22).1 hi
end
section
/-! lists within the class's cells -/
theorem RS.lst {gc : Nat → Nat} {h : AH} {A : Nat → Nat} {I : Nat → Int32} {xs : Nat → List Nat} {nc ns : Nat} (hR : RS gc h A I xs nc ns) {i : Nat} (hi : i < 22) : ∃ e cap, Lst gc h (A (40 + i)) e cap (xs i) := by
  obtain ⟨-, -, -, le, lc, h1, -⟩ := hR
  exact ⟨_, _, (h1.1 i hi).1⟩
theorem rs_size {gc : Nat → Nat} {d : Nat} {h : AH} {A : Nat → Nat} {I : Nat → Int32} {xs : Nat → List Nat} {nc ns i : Nat} (hR : RS gc h A I xs nc ns) (hi : i < 22) : WP gc (d + 1) 17 [.ref (A (40 + i))] h (fun r h' => r = some (.int (nI (xs i).length)) ∧ h' = h) := by
  obtain ⟨e, cap, hL⟩ := hR.lst hi
  exact k_size hL
theorem rs_isEmpty {gc : Nat → Nat} {d : Nat} {h : AH} {A : Nat → Nat} {I : Nat → Int32} {xs : Nat → List Nat} {nc ns i : Nat} (hR : RS gc h A I xs nc ns) (hi : i < 22) : WP gc (d + 1) 63 [.ref (A (40 + i))] h (fun r h' => r = some (.int (if xs i = [] then 1 else 0)) ∧ h' = h) := by
  obtain ⟨e, cap, hL⟩ := hR.lst hi
  exact k_isEmpty hL
theorem rs_get {gc : Nat → Nat} {d : Nat} {h : AH} {A : Nat → Nat} {I : Nat → Int32} {xs : Nat → List Nat} {nc ns i j : Nat} (hR : RS gc h A I xs nc ns) (hi : i < 22) (hj : j < (xs i).length) : WP gc (d + 3) 18 [.ref (A (40 + i)), .int (nI j)] h (fun r h' => r = some (.ref (xs i)[j]) ∧ h' = h) := by
  obtain ⟨e, cap, hL⟩ := hR.lst hi
  exact k_get hL hj
theorem gr_sq {c : Nat} : gr c + c * c ≤ gr c * gr c ∧ c + 1 ≤ gr c := by
  have h1 : c + 1 ≤ gr c := by
    unfold gr
    split <;> (try split) <;> omega
  refine ⟨?_, h1⟩
  obtain ⟨k, hk⟩ : ∃ k, gr c = c + 1 + k := ⟨gr c - (c + 1), by omega⟩
  rw [hk]
  have : (c + 1 + k) * (c + 1 + k) = c * c + (c + 1 + k) + (c + (c + 1 + k) * k + c * k) := by
    simp only [Nat.mul_add, Nat.add_mul, Nat.one_mul, Nat.mul_one]
    have := Nat.mul_comm c k
    omega
  omega
/-- a full list's new places are within bounds, if it is not too long -/
theorem gr_cb {i n c : Nat} (hs : n ≤ (if i = 1 then 449 else 65)) (hc : c = n) : gr c ≤ cb i := by
  unfold gr cb
  subst hc
  split at hs <;> rename_i hz
  · rw [if_pos hz]
    split <;> (try split) <;> omega
  · rw [if_neg hz]
    split <;> (try split) <;> omega
/-- a list has grown by LPost -/
theorem RS.post {gc : Nat → Nat} {h h' : AH} {A le lc : Nat → Nat} {I : Nat → Int32} {xs : Nat → List Nat} {nc ns i : Nat} {ys : List Nat} (hA : AOK A) (hf : Fr h) (hF : RF gc h A I) (hL : RL gc h A le lc xs) (b1 : nc ≤ h.2.1 + sm lc) (b2 : ns ≤ h.2.2.1 + sm2 lc) (hi : i < 22) (hs : (xs i).length ≤ (if i = 1 then 449 else 65)) (hP : LPost gc h (A (40 + i)) (le i) (lc i) (xs i).length ys h') : RS gc h' A I (va_up xs i ys) nc ns ∧ KL h h' ∧ h.1 ≤ h'.1 := by
  obtain ⟨e', cap', g1, g2, g3⟩ := hP
  have hk := Chg.kl hf (hL.1 i hi).1 g2
  refine ⟨⟨hA, g2.2.1, hF.kl hk, va_up le i e', va_up lc i cap', hL.step hA hf hi g2 g1 ?_ ?_, ?_⟩, hk, g2.1⟩
  · rcases g3 with ⟨-, z, -⟩ | ⟨-, z, z2, -⟩
    · rw [z]; exact (hL.1 i hi).2
    · rw [z]; exact gr_cb hs z2
  · rcases g3 with ⟨z1, z2, -⟩ | ⟨z1, -⟩
    · exact Or.inl ⟨z1, z2⟩
    · exact Or.inr (by omega)
  · have s1 := sm_up (lc := lc) (c := cap') hi
    have s2 := sm2_up (lc := lc) (c := cap') hi
    rcases g3 with ⟨-, z, -, z3, z4⟩ | ⟨-, z, -, -, z3, z4⟩
    · subst z
      rw [z3, z4]
      exact ⟨by omega, by omega⟩
    · subst z
      obtain ⟨q1, q2⟩ := gr_sq (c := lc i)
      exact ⟨by omega, by omega⟩
theorem rs_room {gc : Nat → Nat} {h : AH} {A le lc : Nat → Nat} {xs : Nat → List Nat} {nc ns : Nat} (hL : RL gc h A le lc xs) (b1 : nc ≤ h.2.1 + sm lc) (b2 : ns ≤ h.2.2.1 + sm2 lc) (r1 : 3000 ≤ nc) (r2 : 800000 ≤ ns) : 100 ≤ h.2.1 ∧ 100000 ≤ h.2.2.1 := by
  have s1 := sm_le (fun i hi => (hL.1 i hi).2)
  have s2 := sm2_le (fun i hi => (hL.1 i hi).2)
  exact ⟨by omega, by omega⟩
theorem cb_le {i : Nat} : cb i ≤ 700 := by
  unfold cb
  split <;> omega
theorem rs_add {gc : Nat → Nat} {d : Nat} {h : AH} {A : Nat → Nat} {I : Nat → Int32} {xs : Nat → List Nat} {nc ns i y ty : Nat} {wy : List Value} (hR : RS gc h A I xs nc ns) (hi : i < 22) (hs : (xs i).length ≤ (if i = 1 then 449 else 65)) (r1 : 3000 ≤ nc) (r2 : 800000 ≤ ns) (hy : at_ h y ty wy) (ht : asg 103 ty = true) :
    WP gc (d + 6) 23 [.ref (A (40 + i)), .ref y] h (fun r h' => r = some (.int 1) ∧ RS gc h' A I (va_up xs i (xs i ++ [y])) nc ns ∧ KL h h' ∧ h.1 ≤ h'.1) := by
  obtain ⟨hA, hf, hF, le, lc, hL, b1, b2⟩ := hR
  obtain ⟨q1, q2⟩ := rs_room hL b1 b2 r1 r2
  have hc := (hL.1 i hi).2
  have hc2 := cb_le (i := i)
  refine WP_post (k_add hf (hL.1 i hi).1 (by omega) hy ht (by omega) (by omega)) ?_
  rintro r h' ⟨rfl, hP⟩
  exact ⟨rfl, RS.post hA hf hF hL b1 b2 hi hs hP⟩
theorem rs_insert {gc : Nat → Nat} {d : Nat} {h : AH} {A : Nat → Nat} {I : Nat → Int32} {xs : Nat → List Nat} {nc ns i j y ty : Nat} {wy : List Value} (hR : RS gc h A I xs nc ns) (hi : i < 22) (hs : (xs i).length ≤ (if i = 1 then 449 else 65)) (hj : j ≤ (xs i).length) (r1 : 3000 ≤ nc) (r2 : 800000 ≤ ns) (hy : at_ h y ty wy) (ht : asg 103 ty = true) :
    WP gc (d + 5) 52 [.ref (A (40 + i)), .int (nI j), .ref y] h (fun r h' => r = none ∧ RS gc h' A I (va_up xs i (ins (xs i) j y)) nc ns ∧ KL h h' ∧ h.1 ≤ h'.1) := by
  obtain ⟨hA, hf, hF, le, lc, hL, b1, b2⟩ := hR
  obtain ⟨q1, q2⟩ := rs_room hL b1 b2 r1 r2
  have hc := (hL.1 i hi).2
  have hc2 := cb_le (i := i)
  refine WP_post (k_insert hf (hL.1 i hi).1 (by omega) hj hy ht (by omega) (by omega)) ?_
  rintro r h' ⟨rfl, hP⟩
  exact ⟨rfl, RS.post hA hf hF hL b1 b2 hi hs hP⟩
theorem RS.same {gc : Nat → Nat} {h h' : AH} {A le lc : Nat → Nat} {I : Nat → Int32} {xs : Nat → List Nat} {nc ns i : Nat} {ys : List Nat} (hA : AOK A) (hf : Fr h) (hF : RF gc h A I) (hL : RL gc h A le lc xs) (b1 : nc ≤ h.2.1 + sm lc) (b2 : ns ≤ h.2.2.1 + sm2 lc) (hi : i < 22) (g1 : Lst gc h' (A (40 + i)) (le i) (lc i) ys) (g2 : Chg h h' (fun b => b = A (40 + i) ∨ (b = le i ∧ 0 < lc i))) (z1 : h'.2.1 = h.2.1) (z2 : h'.2.2.1 = h.2.2.1) : RS gc h' A I (va_up xs i ys) nc ns ∧ KL h h' ∧ h.1 ≤ h'.1 := by
  have hk := Chg.kl hf (hL.1 i hi).1 g2
  refine ⟨⟨hA, g2.2.1, hF.kl hk, va_up le i (le i), va_up lc i (lc i), hL.step hA hf hi g2 g1 (hL.1 i hi).2 (Or.inl ⟨rfl, rfl⟩), ?_⟩, hk, g2.1⟩
  have s1 := sm_up (lc := lc) (c := lc i) hi
  have s2 := sm2_up (lc := lc) (c := lc i) hi
  rw [z1, z2]
  exact ⟨by omega, by omega⟩
theorem rs_remove {gc : Nat → Nat} {d : Nat} {h : AH} {A : Nat → Nat} {I : Nat → Int32} {xs : Nat → List Nat} {nc ns i j : Nat} (hR : RS gc h A I xs nc ns) (hi : i < 22) (hj : j < (xs i).length) :
    WP gc (d + 3) 32 [.ref (A (40 + i)), .int (nI j)] h (fun r h' => r = some (.ref (xs i)[j]) ∧ RS gc h' A I (va_up xs i ((xs i).eraseIdx j)) nc ns ∧ KL h h' ∧ h.1 ≤ h'.1) := by
  obtain ⟨hA, hf, hF, le, lc, hL, b1, b2⟩ := hR
  refine WP_post (k_remove hf (hL.1 i hi).1 hj) ?_
  rintro r h' ⟨rfl, g1, g2, -, g4, g5⟩
  exact ⟨rfl, RS.same hA hf hF hL b1 b2 hi g1 g2 g4 g5⟩
theorem rs_clear {gc : Nat → Nat} {d : Nat} {h : AH} {A : Nat → Nat} {I : Nat → Int32} {xs : Nat → List Nat} {nc ns i : Nat} (hR : RS gc h A I xs nc ns) (hi : i < 22) :
    WP gc (d + 1) 38 [.ref (A (40 + i))] h (fun r h' => r = none ∧ RS gc h' A I (va_up xs i []) nc ns ∧ KL h h' ∧ h.1 ≤ h'.1) := by
  obtain ⟨hA, hf, hF, le, lc, hL, b1, b2⟩ := hR
  refine WP_post (k_clear hf (hL.1 i hi).1) ?_
  rintro r h' ⟨rfl, g1, g2, -, g4, g5⟩
  exact ⟨rfl, RS.same hA hf hF hL b1 b2 hi g1 g2 g4 g5⟩
end
section
/-! digits, patterns, keys: what both sides compute -/
def b2i (b : Bool) : Int32 := if b then 1 else 0
theorem b2i_01 (b : Bool) : b2i b = 0 ∨ b2i b = 1 := by cases b <;> simp [b2i]
def dg (p : Int32) (i : Nat) : Nat := p.toBitVec.toNat / 2 ^ (4 * i) % 16
theorem dg_lt (p : Int32) (i : Nat) : dg p i < 16 := Nat.mod_lt _ (by decide)
theorem sh4 : ∀ i, i < 8 → (((4 * nI i).toUInt32 &&& Int32.toUInt32 31).toBitVec % 32).toNat = 4 * i := by decide
theorem dg_eq {p : Int32} {i : Nat} (hi : i < 8) : ((p.toUInt32 >>> ((4 * nI i).toUInt32 &&& Int32.toUInt32 31)).toInt32 &&& 15) = nI (dg p i) := by
  rw [pk_and _ 4 (by decide), pk_ushr _ _ _ (sh4 i hi)]
  rfl
theorem k_isWithin {gc : Nat → Nat} {d : Nat} {h : AH} {x lo hi : Int32} : WP gc (d + 1) 8 [.int x, .int lo, .int hi] h (fun r h' => r = some (.int (b2i (decide (¬ x < lo ∧ ¬ hi < x)))) ∧ h' = h) := by
  refine M8 ⟨fun z => B8_14 (B8_15 ⟨Or.inl rfl, ?_, rfl⟩), fun z => ⟨fun z2 => B8_14 (B8_15 ⟨Or.inl rfl, ?_, rfl⟩), fun z2 => B8_15 ⟨Or.inr rfl, ?_, rfl⟩⟩⟩
  · simp [b2i, z]
  · simp [b2i, z2]
  · simp [b2i, z, z2]
theorem k_itemAt {gc : Nat → Nat} {d i : Nat} {h : AH} {p : Int32} (hi : i < 8) : WP gc (d + 1) 15 [.int p, .int (nI i)] h (fun r h' => r = some (.int (nI (dg p i))) ∧ h' = h) :=
  M15 ⟨by rw [dg_eq hi], rfl⟩
def ctF (f : Nat → Nat) : Nat → Nat → Nat
  | 0, i => i
  | n + 1, i => if f i = 0 then i else ctF f n (i + 1)
def ct (p : Int32) : Nat := ctF (dg p) 8 0
theorem ctF_le {f : Nat → Nat} : ∀ n i, i ≤ ctF f n i ∧ ctF f n i ≤ i + n := by
  intro n
  induction n with
  | zero => intro i; exact ⟨Nat.le_refl _, Nat.le_refl _⟩
  | succ n ih =>
    intro i
    unfold ctF
    split
    · omega
    · have := ih (i + 1)
      omega
theorem ct_le (p : Int32) : ct p ≤ 8 := by
  have := (ctF_le (f := dg p) 8 0).2
  unfold ct
  omega
theorem nI_z {n : Nat} (h : n < 2 ^ 31) : nI n = 0 ↔ n = 0 := by
  constructor
  · intro z
    apply Nat.eq_zero_of_not_pos
    intro h0
    exact nI_ne0 h0 h z
  · rintro rfl; rfl
theorem count_loop {gc : Nat → Nat} {d : Nat} {h : AH} {p : Int32} {q : PT} : ∀ n i, i + n = 8 → q (some (.int (nI (ctF (dg p) n i)))) h → TT gc (d + 1) 14 q 2 [.int p, .int (nI i)] [] h := by
  intro n
  induction n with
  | zero =>
    intro i hi hq
    exact B14_2 ⟨fun _ => B14_22 hq, fun z => absurd (show (8 : Int32) ≤ nI i from nI_le (a := 8) (by omega) (by omega)) z⟩
  | succ n ih =>
    intro i hi hq
    refine B14_2 ⟨fun z => absurd z (show ¬ (8 : Int32) ≤ nI i from nI_ge (b := 8) (by omega) (by decide)), fun _ => ⟨_, k_itemAt (by omega), ?_⟩⟩
    rintro r h' ⟨rfl, rfl⟩
    have hlt := dg_lt p i
    unfold ctF at hq
    refine ⟨_, rfl, fun z => ?_, fun z => ?_⟩
    · rw [if_pos ((nI_z (by omega)).mp z)] at hq
      exact B14_22 hq
    · rw [if_neg (fun z2 => z ((nI_z (by omega)).mpr z2))] at hq
      rw [nI_1]
      exact ih (i + 1) (by omega) hq
theorem k_count {gc : Nat → Nat} {d : Nat} {h : AH} {p : Int32} : WP gc (d + 2) 14 [.int p] h (fun r h' => r = some (.int (nI (ct p))) ∧ h' = h) :=
  M14 (count_loop 8 0 rfl ⟨rfl, rfl⟩)
/-- from place i on all digits are 0 -/
def zF (f : Nat → Nat) : Nat → Nat → Bool
  | 0, _ => true
  | n + 1, i => f i == 0 && zF f n (i + 1)
def isPat (p : Int32) : Bool := zF (dg p) (8 - ct p) (ct p)
theorem pat_loop {gc : Nat → Nat} {d : Nat} {h : AH} {p : Int32} {q : PT} : ∀ n i, i + n = 8 → q (some (.int (b2i (zF (dg p) n i)))) h → TT gc (d + 1) 13 q 5 [.int p, .int (nI i)] [] h := by
  intro n
  induction n with
  | zero =>
    intro i hi hq
    exact B13_5 ⟨fun _ => B13_27 ⟨Or.inr rfl, hq⟩, fun z => absurd (show (8 : Int32) ≤ nI i from nI_le (a := 8) (by omega) (by omega)) z⟩
  | succ n ih =>
    intro i hi hq
    refine B13_5 ⟨fun z => absurd z (show ¬ (8 : Int32) ≤ nI i from nI_ge (b := 8) (by omega) (by decide)), fun _ => ⟨_, k_itemAt (by omega), ?_⟩⟩
    rintro r h' ⟨rfl, rfl⟩
    have hlt := dg_lt p i
    unfold zF at hq
    refine ⟨_, rfl, fun z => ?_, fun z => ?_⟩
    · have z0 := (nI_z (by omega)).mp z
      rw [show (dg p i == 0) = true by simp [z0], Bool.true_and] at hq
      refine B13_21 ?_
      rw [nI_1]
      exact ih (i + 1) (by omega) hq
    · have z0 : ¬ dg p i = 0 := fun z2 => z ((nI_z (by omega)).mpr z2)
      rw [show (dg p i == 0) = false by simp [z0], Bool.false_and] at hq
      exact ⟨Or.inl rfl, hq⟩
theorem k_isPattern {gc : Nat → Nat} {d : Nat} {h : AH} {p : Int32} : WP gc (d + 3) 13 [.int p] h (fun r h' => r = some (.int (b2i (isPat p))) ∧ h' = h) := by
  refine M13 ⟨_, k_count, ?_⟩
  rintro r h' ⟨rfl, rfl⟩
  have := ct_le p
  exact ⟨_, rfl, pat_loop (8 - ct p) (ct p) (by omega) ⟨rfl, rfl⟩⟩
theorem k_isChannel {gc : Nat → Nat} {d : Nat} {h : AH} {x : Int32} : WP gc (d + 2) 40 [.int x] h (fun r h' => r = some (.int (b2i (decide (¬ x < 0 ∧ ¬ 3 < x)))) ∧ h' = h) := by
  refine M40 ⟨_, k_isWithin, ?_⟩
  rintro r h' ⟨rfl, rfl⟩
  exact ⟨_, rfl, b2i_01 _, rfl, rfl⟩
/-- all digits from place i on are words or nothing -/
def kF (f : Nat → Nat) : Nat → Nat → Bool
  | 0, _ => true
  | n + 1, i => decide (f i < 14) && kF f n (i + 1)
def isKeyB (p : Int32) : Bool := kF (dg p) 8 0 && isPat p
theorem key_loop {gc : Nat → Nat} {d : Nat} {h : AH} {p : Int32} {q : PT} : ∀ n i, i + n = 8 → q (some (.int (b2i (kF (dg p) n i && isPat p)))) h → TT gc (d + 3) 41 q 2 [.int p, .int (nI i)] [] h := by
  intro n
  induction n with
  | zero =>
    intro i hi hq
    refine B41_2 ⟨fun _ => B41_26 ⟨_, k_isPattern, ?_⟩, fun z => absurd (show (8 : Int32) ≤ nI i from nI_le (a := 8) (by omega) (by omega)) z⟩
    rintro r h' ⟨rfl, rfl⟩
    exact ⟨_, rfl, b2i_01 _, hq⟩
  | succ n ih =>
    intro i hi hq
    refine B41_2 ⟨fun z => absurd z (show ¬ (8 : Int32) ≤ nI i from nI_ge (b := 8) (by omega) (by decide)), fun _ => ⟨_, k_itemAt (by omega), ?_⟩⟩
    rintro r h' ⟨rfl, rfl⟩
    have hlt := dg_lt p i
    unfold kF at hq
    refine ⟨_, rfl, fun z => ?_, fun z => ?_⟩
    · have z0 : dg p i < 14 := (nI_ltI (b := 14) (by omega) (by decide)).mp z
      rw [decide_eq_true z0, Bool.true_and] at hq
      refine B41_20 ?_
      rw [nI_1]
      exact ih (i + 1) (by omega) hq
    · have z0 : ¬ dg p i < 14 := fun z2 => z ((nI_ltI (b := 14) (by omega) (by decide)).mpr z2)
      rw [decide_eq_false z0, Bool.false_and, Bool.false_and] at hq
      exact ⟨Or.inl rfl, hq⟩
theorem k_isKey {gc : Nat → Nat} {d : Nat} {h : AH} {p : Int32} : WP gc (d + 4) 41 [.int p] h (fun r h' => r = some (.int (b2i (isKeyB p))) ∧ h' = h) :=
  M41 (key_loop 8 0 rfl ⟨rfl, rfl⟩)
end
section
/-! objects in lists, and the values that they stand for -/
def All2 {α : Type} (R : Nat → α → Prop) : List Nat → List α → Prop
  | [], [] => True
  | a :: as, b :: bs => R a b ∧ All2 R as bs
  | _, _ => False
theorem All2.len {α : Type} {R : Nat → α → Prop} : ∀ {as : List Nat} {bs : List α}, All2 R as bs → as.length = bs.length
  | [], [], _ => rfl
  | _ :: _, _ :: _, h => by rw [List.length_cons, List.length_cons, All2.len h.2]
  | [], _ :: _, h => h.elim
  | _ :: _, [], h => h.elim
theorem All2.get {α : Type} {R : Nat → α → Prop} : ∀ {as : List Nat} {bs : List α} (i : Nat), All2 R as bs → (h1 : i < as.length) → (h2 : i < bs.length) → R as[i] bs[i]
  | [], _, i, _, h1, _ => absurd h1 (Nat.not_lt_zero _)
  | _ :: _, [], _, h, _, _ => h.elim
  | _ :: _, _ :: _, 0, h, _, _ => h.1
  | _ :: _, _ :: _, i + 1, h, h1, h2 => All2.get i h.2 (Nat.lt_of_succ_lt_succ h1) (Nat.lt_of_succ_lt_succ h2)
theorem All2.mono {α : Type} {R S : Nat → α → Prop} : ∀ {as : List Nat} {bs : List α}, (∀ a b, a ∈ as → R a b → S a b) → All2 R as bs → All2 S as bs
  | [], [], _, _ => trivial
  | _ :: _, _ :: _, hs, h => ⟨hs _ _ List.mem_cons_self h.1, All2.mono (fun a b ha => hs a b (List.mem_cons_of_mem _ ha)) h.2⟩
  | [], _ :: _, _, h => h.elim
  | _ :: _, [], _, h => h.elim
theorem All2.app {α : Type} {R : Nat → α → Prop} : ∀ {as as' : List Nat} {bs bs' : List α}, All2 R as bs → All2 R as' bs' → All2 R (as ++ as') (bs ++ bs')
  | [], _, [], _, _, h2 => h2
  | _ :: _, _, _ :: _, _, h1, h2 => ⟨h1.1, All2.app h1.2 h2⟩
  | [], _, _ :: _, _, h, _ => h.elim
  | _ :: _, _, [], _, h, _ => h.elim
theorem All2.one {α : Type} {R : Nat → α → Prop} {as : List Nat} {bs : List α} {a : Nat} {b : α} (h : All2 R as bs) (hab : R a b) : All2 R (as ++ [a]) (bs ++ [b]) := h.app ⟨hab, trivial⟩
theorem All2.take {α : Type} {R : Nat → α → Prop} : ∀ {as : List Nat} {bs : List α} (i : Nat), All2 R as bs → All2 R (as.take i) (bs.take i)
  | [], [], _, _ => by rw [List.take_nil, List.take_nil]; trivial
  | _ :: _, _ :: _, 0, _ => trivial
  | _ :: _, _ :: _, i + 1, h => ⟨h.1, All2.take i h.2⟩
  | [], _ :: _, _, h => h.elim
  | _ :: _, [], _, h => h.elim
theorem All2.drop {α : Type} {R : Nat → α → Prop} : ∀ {as : List Nat} {bs : List α} (i : Nat), All2 R as bs → All2 R (as.drop i) (bs.drop i)
  | [], [], _, _ => by rw [List.drop_nil, List.drop_nil]; trivial
  | _ :: _, _ :: _, 0, h => h
  | _ :: _, _ :: _, i + 1, h => All2.drop i h.2
  | [], _ :: _, _, h => h.elim
  | _ :: _, [], _, h => h.elim
def insG {α : Type} (ys : List α) (i : Nat) (y : α) : List α := ys.take i ++ y :: ys.drop i
theorem All2.ins {α : Type} {R : Nat → α → Prop} {as : List Nat} {bs : List α} {a i : Nat} {b : α} (h : All2 R as bs) (hab : R a b) : All2 R (ins as i a) (insG bs i b) := (h.take i).app ⟨hab, h.drop i⟩
theorem All2.erase {α : Type} {R : Nat → α → Prop} : ∀ {as : List Nat} {bs : List α} (i : Nat), All2 R as bs → All2 R (as.eraseIdx i) (bs.eraseIdx i)
  | [], [], _, _ => trivial
  | _ :: _, _ :: _, 0, h => h.2
  | _ :: _, _ :: _, i + 1, h => ⟨h.1, All2.erase i h.2⟩
  | [], _ :: _, _, h => h.elim
  | _ :: _, [], _, h => h.elim
theorem All2.mono' {α : Type} {R S : Nat → α → Prop} {as : List Nat} {bs : List α} (h : All2 R as bs) (hs : ∀ (j a : Nat) (b : α), as[j]? = some a → R a b → S a b) : All2 S as bs := h.mono (fun a b ha hr => by
  obtain ⟨j, hj⟩ := List.getElem?_of_mem ha
  exact hs j a b hj hr)
theorem All2.set {α : Type} {R S : Nat → α → Prop} : ∀ {as : List Nat} {bs : List α} (i : Nat) (y : α), (∀ (j a : Nat) (b : α), as[j]? = some a → j ≠ i → R a b → S a b) → (∀ a : Nat, as[i]? = some a → S a y) → All2 R as bs → All2 S as (bs.set i y)
  | [], [], _, _, _, _, _ => trivial
  | a :: _, _ :: _, 0, y, hs, hi, h => ⟨hi a rfl, h.2.mono' (fun j a' b ha hr => hs (j + 1) a' b ha (Nat.succ_ne_zero _) hr)⟩
  | _ :: _, _ :: _, i + 1, y, hs, hi, h => ⟨hs 0 _ _ rfl (by omega) h.1, All2.set i y (fun j a b ha hn hr => hs (j + 1) a b ha (by omega) hr) (fun a ha => hi a ha) h.2⟩
  | [], _ :: _, _, _, _, _, h => h.elim
  | _ :: _, [], _, _, _, _, h => h.elim
/-- a message: body, key, hops, persistent. A copy's record: message; returned, queue, place, tag, deed -/
abbrev Msg : Type := Int32 × Int32 × Int32 × Bool
abbrev Rec : Type := Msg × Bool × Int32 × Int32 × Int32 × Int32
def rM (r : Rec) : Msg := r.1
def rRet (r : Rec) : Bool := r.2.1
def rQ (r : Rec) : Int32 := r.2.2.1
def rP (r : Rec) : Int32 := r.2.2.2.1
def rT (r : Rec) : Int32 := r.2.2.2.2.1
def rD (r : Rec) : Int32 := r.2.2.2.2.2
def MsgAt (h : AH) (a : Nat) (m : Msg) : Prop := at_ h a 7 [.int m.1, .int m.2.1, .int m.2.2.1, .int (b2i m.2.2.2)]
/-- a copy in list k; a copy that nobody holds shows no deed -/
def CpAt (k : Nat) (h : AH) (a : Nat) (r : Rec) : Prop := ∃ (m : Nat) (D : Int32), at_ h a 4 [.ref m, .int (rQ r), .int (rP r), .int (b2i (rRet r)), .int (rT r), .int D] ∧ (14 ≤ k → D = rD r) ∧ MsgAt h m (rM r)
abbrev Bnd : Type := Int32 × Int32 × Int32
def BdAt (h : AH) (a : Nat) (b : Bnd) : Prop := at_ h a 1 [.int b.1, .int b.2.1, .int b.2.2]
abbrev Con : Type := Int32 × Bool
def CnAt (h : AH) (a : Nat) (b : Con) : Prop := at_ h a 3 [.int b.1, .int (b2i b.2)]
abbrev Ded : Type := Int32 × Option Msg × Int32
def DdAt (h : AH) (a : Nat) (b : Ded) : Prop := match b.2.1 with
  | none => at_ h a 5 [.int b.1, .null, .int b.2.2]
  | some ms => ∃ m : Nat, at_ h a 5 [.int b.1, .ref m, .int b.2.2] ∧ MsgAt h m ms
/-- the objects of the lists stay -/
def KO (h h' : AH) : Prop := ∀ (b t : Nat) (vs : List Value), (t = 1 ∨ t = 3 ∨ t = 4 ∨ t = 5 ∨ t = 7) → at_ h b t vs → at_ h' b t vs
theorem KL.ko {h h' : AH} (hk : KL h h') : KO h h' := fun b t vs z hb => hk b t vs (by omega) (by omega) (by omega) hb
theorem MsgAt.ko {h h' : AH} {a : Nat} {m : Msg} (hk : KO h h') (hm : MsgAt h a m) : MsgAt h' a m := hk _ _ _ (by omega) hm
theorem CpAt.ko {h h' : AH} {a k : Nat} {r : Rec} (hk : KO h h') (hm : CpAt k h a r) : CpAt k h' a r := by
  obtain ⟨m, D, h1, h2, h3⟩ := hm
  exact ⟨m, D, hk _ _ _ (by omega) h1, h2, h3.ko hk⟩
theorem BdAt.ko {h h' : AH} {a : Nat} {b : Bnd} (hk : KO h h') (hm : BdAt h a b) : BdAt h' a b := hk _ _ _ (by omega) hm
theorem CnAt.ko {h h' : AH} {a : Nat} {b : Con} (hk : KO h h') (hm : CnAt h a b) : CnAt h' a b := hk _ _ _ (by omega) hm
theorem DdAt.ko {h h' : AH} {a : Nat} {b : Ded} (hk : KO h h') (hm : DdAt h a b) : DdAt h' a b := by
  unfold DdAt at *
  split at hm
  · exact hk _ _ _ (by omega) hm
  · obtain ⟨m, h1, h2⟩ := hm
    exact ⟨m, hk _ _ _ (by omega) h1, h2.ko hk⟩
theorem CpAt.tag {h : AH} {a k : Nat} {r : Rec} (hm : CpAt k h a r) : ∃ ws, at_ h a 4 ws := by
  obtain ⟨m, D, h1, -⟩ := hm
  exact ⟨_, h1⟩
theorem BdAt.tag {h : AH} {a : Nat} {r : Bnd} (hm : BdAt h a r) : ∃ ws, at_ h a 1 ws := ⟨_, hm⟩
theorem CnAt.tag {h : AH} {a : Nat} {r : Con} (hm : CnAt h a r) : ∃ ws, at_ h a 3 ws := ⟨_, hm⟩
theorem DdAt.tag {h : AH} {a : Nat} {r : Ded} (hm : DdAt h a r) : ∃ ws, at_ h a 5 ws := by
  unfold DdAt at hm
  split at hm
  · exact ⟨_, hm⟩
  · obtain ⟨m, h1, -⟩ := hm
    exact ⟨_, h1⟩
/-- what the lists hold: bindings (list 0), copies (1 letters, 2+q waiting, 14+c held), rows (8+q), deeds (18+c) -/
abbrev Mu : Type := (Nat → List Bnd) × (Nat → List Rec) × (Nat → List Con) × (Nat → List Ded)
def uB (v : Mu) : Nat → List Bnd := v.1
def uC (v : Mu) : Nat → List Rec := v.2.1
def uR (v : Mu) : Nat → List Con := v.2.2.1
def uD (v : Mu) : Nat → List Ded := v.2.2.2
def upB (v : Mu) (k : Nat) (ys : List Bnd) : Mu := (va_up v.1 k ys, v.2)
def upC (v : Mu) (k : Nat) (ys : List Rec) : Mu := (v.1, va_up v.2.1 k ys, v.2.2)
def upR (v : Mu) (k : Nat) (ys : List Con) : Mu := (v.1, v.2.1, va_up v.2.2.1 k ys, v.2.2.2)
def upD (v : Mu) (k : Nat) (ys : List Ded) : Mu := (v.1, v.2.1, v.2.2.1, va_up v.2.2.2 k ys)
def isB (k : Nat) : Prop := k = 0
def isC (k : Nat) : Prop := (1 ≤ k ∧ k < 8) ∨ (14 ≤ k ∧ k < 18)
def isR (k : Nat) : Prop := 8 ≤ k ∧ k < 14
def isD (k : Nat) : Prop := 18 ≤ k ∧ k < 22
def CT (h : AH) (xs : Nat → List Nat) (v : Mu) : Prop :=
  (∀ k, isB k → All2 (BdAt h) (xs k) (uB v k)) ∧ (∀ k, isC k → All2 (CpAt k h) (xs k) (uC v k)) ∧ (∀ k, isR k → All2 (CnAt h) (xs k) (uR v k)) ∧ ∀ k, isD k → All2 (DdAt h) (xs k) (uD v k)
theorem CT.ko {h h' : AH} {xs : Nat → List Nat} {v : Mu} (hk : KO h h') (hc : CT h xs v) : CT h' xs v := by
  obtain ⟨h1, h2, h3, h4⟩ := hc
  exact ⟨fun k z => (h1 k z).mono (fun _ _ _ => BdAt.ko hk), fun k z => (h2 k z).mono (fun _ _ _ => CpAt.ko hk), fun k z => (h3 k z).mono (fun _ _ _ => CnAt.ko hk), fun k z => (h4 k z).mono (fun _ _ _ => DdAt.ko hk)⟩
theorem CT.B {h : AH} {xs : Nat → List Nat} {v : Mu} (hc : CT h xs v) {k : Nat} (hk : isB k) : All2 (BdAt h) (xs k) (uB v k) := hc.1 k hk
theorem CT.C {h : AH} {xs : Nat → List Nat} {v : Mu} (hc : CT h xs v) {k : Nat} (hk : isC k) : All2 (CpAt k h) (xs k) (uC v k) := hc.2.1 k hk
theorem CT.R {h : AH} {xs : Nat → List Nat} {v : Mu} (hc : CT h xs v) {k : Nat} (hk : isR k) : All2 (CnAt h) (xs k) (uR v k) := hc.2.2.1 k hk
theorem CT.D {h : AH} {xs : Nat → List Nat} {v : Mu} (hc : CT h xs v) {k : Nat} (hk : isD k) : All2 (DdAt h) (xs k) (uD v k) := hc.2.2.2 k hk
theorem up_all {α : Type} {R : Nat → Nat → α → Prop} {p : Nat → Prop} {xs : Nat → List Nat} {f : Nat → List α} {k : Nat} {as : List Nat} {ys : List α} (h : ∀ j, p j → All2 (R j) (xs j) (f j)) (ha : All2 (R k) as ys) : ∀ j, p j → All2 (R j) (va_up xs k as j) (va_up f k ys j) := fun j hj => by
  by_cases hz : j = k
  · subst hz
    rw [va_up_self, va_up_self]
    exact ha
  · rw [va_up_ne _ _ hz, va_up_ne _ _ hz]
    exact h j hj
theorem up_oth {α : Type} {R : Nat → Nat → α → Prop} {p : Nat → Prop} {xs : Nat → List Nat} {f : Nat → List α} {k : Nat} {as : List Nat} (h : ∀ j, p j → All2 (R j) (xs j) (f j)) (hn : ¬ p k) : ∀ j, p j → All2 (R j) (va_up xs k as j) (f j) := fun j hj => by
  have hz : j ≠ k := fun z => hn (by rw [← z]; exact hj)
  rw [va_up_ne _ _ hz]
  exact h j hj
theorem CT.upB {h : AH} {xs : Nat → List Nat} {v : Mu} (hc : CT h xs v) {k : Nat} (hk : isB k) {as : List Nat} {ys : List Bnd} (ha : All2 (BdAt h) as ys) : CT h (va_up xs k as) (upB v k ys) := by
  obtain ⟨h1, h2, h3, h4⟩ := hc
  unfold isB at hk
  exact ⟨up_all (R := fun _ => BdAt h) h1 ha, up_oth h2 (by unfold isC; omega), up_oth (R := fun _ => CnAt h) h3 (by unfold isR; omega), up_oth (R := fun _ => DdAt h) h4 (by unfold isD; omega)⟩
theorem CT.upC {h : AH} {xs : Nat → List Nat} {v : Mu} (hc : CT h xs v) {k : Nat} (hk : isC k) {as : List Nat} {ys : List Rec} (ha : All2 (CpAt k h) as ys) : CT h (va_up xs k as) (upC v k ys) := by
  obtain ⟨h1, h2, h3, h4⟩ := hc
  unfold isC at hk
  exact ⟨up_oth (R := fun _ => BdAt h) h1 (by unfold isB; omega), up_all (R := fun j => CpAt j h) h2 ha, up_oth (R := fun _ => CnAt h) h3 (by unfold isR; omega), up_oth (R := fun _ => DdAt h) h4 (by unfold isD; omega)⟩
theorem CT.upR {h : AH} {xs : Nat → List Nat} {v : Mu} (hc : CT h xs v) {k : Nat} (hk : isR k) {as : List Nat} {ys : List Con} (ha : All2 (CnAt h) as ys) : CT h (va_up xs k as) (upR v k ys) := by
  obtain ⟨h1, h2, h3, h4⟩ := hc
  unfold isR at hk
  exact ⟨up_oth (R := fun _ => BdAt h) h1 (by unfold isB; omega), up_oth h2 (by unfold isC; omega), up_all (R := fun _ => CnAt h) h3 ha, up_oth (R := fun _ => DdAt h) h4 (by unfold isD; omega)⟩
theorem CT.upD {h : AH} {xs : Nat → List Nat} {v : Mu} (hc : CT h xs v) {k : Nat} (hk : isD k) {as : List Nat} {ys : List Ded} (ha : All2 (DdAt h) as ys) : CT h (va_up xs k as) (upD v k ys) := by
  obtain ⟨h1, h2, h3, h4⟩ := hc
  unfold isD at hk
  exact ⟨up_oth (R := fun _ => BdAt h) h1 (by unfold isB; omega), up_oth h2 (by unfold isC; omega), up_oth (R := fun _ => CnAt h) h3 (by unfold isR; omega), up_all (R := fun _ => DdAt h) h4 ha⟩
/-- no copy lies twice -/
def ND (xs : Nat → List Nat) : Prop := (∀ k, isC k → (xs k).Nodup) ∧ ∀ k l a, isC k → isC l → a ∈ xs k → a ∈ xs l → k = l
theorem ND.up {xs : Nat → List Nat} (hn : ND xs) {k : Nat} {as : List Nat} (h1 : isC k → as.Nodup) (h2 : isC k → ∀ a l, a ∈ as → isC l → l ≠ k → a ∉ xs l) : ND (va_up xs k as) := by
  refine ⟨fun j hj => ?_, fun i j a hi hj ha hb => ?_⟩
  · by_cases hz : j = k
    · subst hz; rw [va_up_self]; exact h1 hj
    · rw [va_up_ne _ _ hz]; exact hn.1 j hj
  · by_cases hz : i = k <;> by_cases hy : j = k
    · omega
    · subst hz
      rw [va_up_self] at ha
      rw [va_up_ne _ _ hy] at hb
      exact absurd hb (h2 hi a j ha hj hy)
    · subst hy
      rw [va_up_self] at hb
      rw [va_up_ne _ _ hz] at ha
      exact absurd ha (h2 hj a i hb hi hz)
    · rw [va_up_ne _ _ hz] at ha
      rw [va_up_ne _ _ hy] at hb
      exact hn.2 i j a hi hj ha hb
end
section
/-! the class: frames, fixed objects, declared or not -/
/-- what is not the class's stays -/
def KC (h h' : AH) : Prop := ∀ (b t : Nat) (vs : List Value), (t = 11 ∨ t = 104 ∨ t = 105 ∨ t = 200 ∨ t = 201) → at_ h b t vs → at_ h' b t vs
theorem KC.refl {h : AH} : KC h h := fun _ _ _ _ h => h
theorem KC.trans {h h' h'' : AH} (h1 : KC h h') (h2 : KC h' h'') : KC h h'' := fun b t vs z hb => h2 b t vs z (h1 b t vs z hb)
theorem KL.kc {h h' : AH} (hk : KL h h') : KC h h' := fun b t vs z hb => hk b t vs (by omega) (by omega) (by omega) hb
theorem KC.set {h : AH} {a t : Nat} {vs : List Value} {e : Nat × List Value} (ha : at_ h a t vs) (ht : t ≤ 10) : KC h (ah_set h a e) := fun b t' vs' z hb => at_n hb (at_ne hb ha (by omega))
theorem KC.new {h : AH} {e : Nat × List Value} (hf : Fr h) : KC h (ah_new h e) := fun b t vs z hb => at_old hf hb (by omega)
/-- a fixed object's numbers are written -/
theorem RS.wr {gc : Nat → Nat} {h : AH} {A : Nat → Nat} {I I' : Nat → Int32} {xs : Nat → List Nat} {nc ns a t : Nat} {vs vs' : List Value} (hR : RS gc h A I xs nc ns) (ha : at_ h a t vs) (ht : t = 2 ∨ t = 6 ∨ t = 8 ∨ t = 9) (hF : RF gc (ah_set h a (t, vs')) A I') : RS gc (ah_set h a (t, vs')) A I' xs nc ns := by
  obtain ⟨hA, hf, -, le, lc, hL, b1, b2⟩ := hR
  refine ⟨hA, hf.set ha (by omega), hF, le, lc, ⟨fun i hi => ?_, hL.2⟩, b1, b2⟩
  obtain ⟨⟨⟨m, g1⟩, g2, g3, g4, g5⟩, g6⟩ := hL.1 i hi
  refine ⟨⟨⟨m, at_n g1 (at_ne g1 ha (by omega))⟩, g2, g3, ?_, g5.set ha ?_⟩, g6⟩
  · rcases g4 with ⟨z1, z2, z3⟩ | ⟨z1, z3⟩
    · exact Or.inl ⟨z1, z2, at_n z3 (at_ne z3 ha (by omega))⟩
    · exact Or.inr ⟨z1, at_n z3 (at_ne z3 ha (by omega))⟩
  · rcases ht with rfl | rfl | rfl | rfl <;> rfl
theorem KO.set {h : AH} {a t : Nat} {vs : List Value} {e : Nat × List Value} (ha : at_ h a t vs) (ht : ¬ (t = 1 ∨ t = 3 ∨ t = 4 ∨ t = 5 ∨ t = 7)) : KO h (ah_set h a e) := fun b t' vs' z hb => at_n hb (at_ne hb ha (by omega))
theorem KO.new {h : AH} {e : Nat × List Value} (hf : Fr h) : KO h (ah_new h e) := fun b t vs z hb => at_old hf hb (by omega)
/-- an object more -/
theorem RS.new {gc : Nat → Nat} {h : AH} {A : Nat → Nat} {I : Nat → Int32} {xs : Nat → List Nat} {nc ns t : Nat} {vs : List Value} (hR : RS gc h A I xs (nc + 1) (ns + 10)) (hl : vs.length ≤ 10) (r1 : 3000 ≤ nc) (r2 : 800000 ≤ ns) : RS gc (ah_new h (t, vs)) A I xs nc ns ∧ 100 ≤ h.2.1 ∧ 100000 ≤ h.2.2.1 := by
  obtain ⟨hA, hf, hF, le, lc, hL, b1, b2⟩ := hR
  obtain ⟨q1, q2⟩ := rs_room hL b1 b2 (by omega) (by omega)
  have k : ∀ b t' vs', t' ≠ 0 → at_ h b t' vs' → at_ (ah_new h (t, vs)) b t' vs' := fun b t' vs' z hb => at_old hf hb z
  refine ⟨⟨hA, hf.new, hF.kl (fun b t' vs' z _ _ hb => k b t' vs' z hb), le, lc, ⟨fun i hi => ?_, hL.2⟩, ?_, ?_⟩, q1, q2⟩
  · obtain ⟨g1, g2⟩ := hL.1 i hi
    exact ⟨g1.keep (fun vs' hv => k _ _ _ (by decide) hv) (fun _ vs' hv => k _ _ _ (by decide) hv) (fun b t' vs' z _ _ hb => k b t' vs' z hb), g2⟩
  · show nc ≤ h.2.1 - 1 + sm lc
    omega
  · show ns ≤ h.2.2.1 - vs.length + sm2 lc
    omega
theorem set_new {h : AH} {t : Nat} {vs ws : List Value} (hl : vs.length = ws.length) : ah_set (ah_new h (t, vs)) h.1 (t, ws) = ah_new h (t, ws) := by
  unfold ah_set ah_new ah_up
  simp only [hl]
  congr 3
  funext b
  by_cases hb : b = h.1
  · simp [hb]
  · simp [hb]
theorem rng {x : Int32} {n : Nat} (hn : n < 2 ^ 31) (h1 : ¬ x < 0) (h2 : ¬ nI n < x) : ∃ e : Nat, e < n + 1 ∧ x = nI e := by
  obtain ⟨j, hj, rfl⟩ := nI_of h1
  refine ⟨j, ?_, rfl⟩
  apply Nat.lt_of_not_le
  intro z
  exact h2 (nI_lt (by omega) hj)
theorem b2i_z {b : Bool} : b2i b = 0 ↔ b = false := by cases b <;> simp [b2i]
/-- the arrays' places -/
theorem RF.exA {gc : Nat → Nat} {h : AH} {A : Nat → Nat} {I : Nat → Int32} (hF : RF gc h A I) {e : Nat} (he : e < 5) : ∃ (t : Nat) (vs : List Value), at_ h (A 1) t vs ∧ isRA t = true ∧ ¬ nI e < 0 ∧ vs[(nI e).toNatClampNeg]? = some (.ref (A (10 + e))) := by
  refine ⟨100, _, hF.2.2.1, rfl, nI_pos (by omega), ?_⟩
  rw [nI_clamp (by omega)]
  match e, he with
  | 0, _ => rfl
  | 1, _ => rfl
  | 2, _ => rfl
  | 3, _ => rfl
  | 4, _ => rfl
theorem RF.quA {gc : Nat → Nat} {h : AH} {A : Nat → Nat} {I : Nat → Int32} (hF : RF gc h A I) {e : Nat} (he : e < 6) : ∃ (t : Nat) (vs : List Value), at_ h (A 2) t vs ∧ isRA t = true ∧ ¬ nI e < 0 ∧ vs[(nI e).toNatClampNeg]? = some (.ref (A (20 + e))) := by
  refine ⟨101, _, hF.2.2.2.1, rfl, nI_pos (by omega), ?_⟩
  rw [nI_clamp (by omega)]
  match e, he with
  | 0, _ => rfl
  | 1, _ => rfl
  | 2, _ => rfl
  | 3, _ => rfl
  | 4, _ => rfl
  | 5, _ => rfl
theorem RF.chA {gc : Nat → Nat} {h : AH} {A : Nat → Nat} {I : Nat → Int32} (hF : RF gc h A I) {e : Nat} (he : e < 4) : ∃ (t : Nat) (vs : List Value), at_ h (A 3) t vs ∧ isRA t = true ∧ ¬ nI e < 0 ∧ vs[(nI e).toNatClampNeg]? = some (.ref (A (30 + e))) := by
  refine ⟨102, _, hF.2.2.2.2.1, rfl, nI_pos (by omega), ?_⟩
  rw [nI_clamp (by omega)]
  match e, he with
  | 0, _ => rfl
  | 1, _ => rfl
  | 2, _ => rfl
  | 3, _ => rfl
def isEx (I : Nat → Int32) (x : Int32) : Bool := decide (¬ x < 0 ∧ ¬ 4 < x) && decide (¬ I (100 + 10 * x.toNatClampNeg) = 0)
def isQu (I : Nat → Int32) (x : Int32) : Bool := decide (¬ x < 0 ∧ ¬ 5 < x) && decide (¬ I (200 + 10 * x.toNatClampNeg) = 0)
theorem k_isE {gc : Nat → Nat} {d : Nat} {h : AH} {A : Nat → Nat} {I : Nat → Int32} {x : Int32} (hF : RF gc h A I) : WP gc (d + 2) 11 [.ref (A 0), .int x] h (fun r h' => r = some (.int (b2i (isEx I x))) ∧ h' = h) := by
  refine M11 ⟨_, k_isWithin, ?_⟩
  rintro r h' ⟨rfl, rfl⟩
  refine ⟨_, rfl, fun z => ?_, fun z => ?_⟩
  · have z1 := b2i_z.mp z
    refine B11_25 (B11_26 ⟨Or.inl rfl, ?_, rfl⟩)
    unfold isEx
    rw [z1]
    rfl
  · have z1 : ¬ x < 0 ∧ ¬ 4 < x := of_decide_eq_true (by
      cases hz : decide (¬ x < 0 ∧ ¬ 4 < x) with
      | true => rfl
      | false => exact absurd (b2i_z.mpr hz) z)
    obtain ⟨e, he, rfl⟩ := rng (n := 4) (by decide) z1.1 z1.2
    obtain ⟨t, vs, g1, g2, g3, g4⟩ := hF.exA he
    have hb : isEx I (nI e) = decide (¬ I (100 + 10 * e) = 0) := by
      unfold isEx
      rw [nI_clamp (by omega), decide_eq_true z1, Bool.true_and]
    rw [hb]
    refine ⟨_, _, hF.2.1, rfl, t, vs, _, g1, g2, g3, g4, _, _, hF.2.2.2.2.2.1 e he, rfl, fun z2 => B11_25 (B11_26 ⟨Or.inl rfl, ?_, rfl⟩), fun z2 => B11_26 ⟨Or.inr rfl, ?_, rfl⟩⟩
    · rw [z2]; rfl
    · rw [decide_eq_true z2]; rfl
theorem k_isQ {gc : Nat → Nat} {d : Nat} {h : AH} {A : Nat → Nat} {I : Nat → Int32} {x : Int32} (hF : RF gc h A I) : WP gc (d + 2) 12 [.ref (A 0), .int x] h (fun r h' => r = some (.int (b2i (isQu I x))) ∧ h' = h) := by
  refine M12 ⟨_, k_isWithin, ?_⟩
  rintro r h' ⟨rfl, rfl⟩
  refine ⟨_, rfl, fun z => ?_, fun z => ?_⟩
  · have z1 := b2i_z.mp z
    refine B12_25 (B12_26 ⟨Or.inl rfl, ?_, rfl⟩)
    unfold isQu
    rw [z1]
    rfl
  · have z1 : ¬ x < 0 ∧ ¬ 5 < x := of_decide_eq_true (by
      cases hz : decide (¬ x < 0 ∧ ¬ 5 < x) with
      | true => rfl
      | false => exact absurd (b2i_z.mpr hz) z)
    obtain ⟨e, he, rfl⟩ := rng (n := 5) (by decide) z1.1 z1.2
    obtain ⟨t, vs, g1, g2, g3, g4⟩ := hF.quA he
    have hb : isQu I (nI e) = decide (¬ I (200 + 10 * e) = 0) := by
      unfold isQu
      rw [nI_clamp (by omega), decide_eq_true z1, Bool.true_and]
    rw [hb]
    refine ⟨_, _, hF.2.1, rfl, t, vs, _, g1, g2, g3, g4, _, _, hF.2.2.2.2.2.2.1 e he, rfl, fun z2 => B12_25 (B12_26 ⟨Or.inl rfl, ?_, rfl⟩), fun z2 => B12_26 ⟨Or.inr rfl, ?_, rfl⟩⟩
    · rw [z2]; rfl
    · rw [decide_eq_true z2]; rfl
end
section
theorem at_c {h : AH} {b t : Nat} {vs vs' : List Value} (hb : at_ h b t vs) (e : vs = vs') : at_ h b t vs' := e ▸ hb
theorem RF.setE {gc : Nat → Nat} {h : AH} {A : Nat → Nat} {I I' : Nat → Int32} {e : Nat} (hF : RF gc h A I) (hA : AOK A) (he : e < 5) (hI : ∀ j, ¬ (100 + 10 * e ≤ j ∧ j ≤ 102 + 10 * e) → I' j = I j) : RF gc (ah_set h (A (10 + e)) (6, [.int (I' (100 + 10 * e)), .int (I' (101 + 10 * e)), .int (I' (102 + 10 * e))])) A I' := by
  obtain ⟨h1, h2, h3, h4, h5, h6, h7, h8⟩ := hF
  have ha := h6 e he
  refine ⟨at_n h1 (at_ne h1 ha (by decide)), at_n (at_c h2 (by rw [hI 0 (by omega), hI 1 (by omega), hI 2 (by omega)])) (at_ne h2 ha (by decide)), at_n h3 (at_ne h3 ha (by decide)), at_n h4 (at_ne h4 ha (by decide)), at_n h5 (at_ne h5 ha (by decide)), fun e' he' => ?_, fun q hq => ?_, fun c hc => ?_⟩
  · by_cases hz : e' = e
    · subst hz; exact at_s
    · exact at_n (at_c (h6 e' he') (by rw [hI (100 + 10 * e') (by omega), hI (101 + 10 * e') (by omega), hI (102 + 10 * e') (by omega)])) (fun z => hz (hA.1 e' e he' he z))
  · exact at_n (at_c (h7 q hq) (by rw [hI (200 + 10 * q) (by omega), hI (201 + 10 * q) (by omega), hI (202 + 10 * q) (by omega), hI (203 + 10 * q) (by omega)])) (at_ne (h7 q hq) ha (by decide))
  · exact at_n (at_c (h8 c hc) (by rw [hI (300 + 10 * c) (by omega), hI (301 + 10 * c) (by omega), hI (302 + 10 * c) (by omega)])) (at_ne (h8 c hc) ha (by decide))
theorem RF.setQ {gc : Nat → Nat} {h : AH} {A : Nat → Nat} {I I' : Nat → Int32} {e : Nat} (hF : RF gc h A I) (hA : AOK A) (he : e < 6) (hI : ∀ j, ¬ (200 + 10 * e ≤ j ∧ j ≤ 203 + 10 * e) → I' j = I j) : RF gc (ah_set h (A (20 + e)) (8, [.int (I' (200 + 10 * e)), .int (I' (201 + 10 * e)), .int (I' (202 + 10 * e)), .int (I' (203 + 10 * e)), .ref (A (42 + e)), .ref (A (48 + e))])) A I' := by
  obtain ⟨h1, h2, h3, h4, h5, h6, h7, h8⟩ := hF
  have ha := h7 e he
  refine ⟨at_n h1 (at_ne h1 ha (by decide)), at_n (at_c h2 (by rw [hI 0 (by omega), hI 1 (by omega), hI 2 (by omega)])) (at_ne h2 ha (by decide)), at_n h3 (at_ne h3 ha (by decide)), at_n h4 (at_ne h4 ha (by decide)), at_n h5 (at_ne h5 ha (by decide)), fun e' he' => ?_, fun q hq => ?_, fun c hc => ?_⟩
  · exact at_n (at_c (h6 e' he') (by rw [hI (100 + 10 * e') (by omega), hI (101 + 10 * e') (by omega), hI (102 + 10 * e') (by omega)])) (at_ne (h6 e' he') ha (by decide))
  · by_cases hz : q = e
    · subst hz; exact at_s
    · exact at_n (at_c (h7 q hq) (by rw [hI (200 + 10 * q) (by omega), hI (201 + 10 * q) (by omega), hI (202 + 10 * q) (by omega), hI (203 + 10 * q) (by omega)])) (fun z => hz (hA.2.1 q e hq he z))
  · exact at_n (at_c (h8 c hc) (by rw [hI (300 + 10 * c) (by omega), hI (301 + 10 * c) (by omega), hI (302 + 10 * c) (by omega)])) (at_ne (h8 c hc) ha (by decide))
theorem RF.setC {gc : Nat → Nat} {h : AH} {A : Nat → Nat} {I I' : Nat → Int32} {e : Nat} (hF : RF gc h A I) (hA : AOK A) (he : e < 4) (hI : ∀ j, ¬ (300 + 10 * e ≤ j ∧ j ≤ 302 + 10 * e) → I' j = I j) : RF gc (ah_set h (A (30 + e)) (2, [.int (I' (300 + 10 * e)), .int (I' (301 + 10 * e)), .int (I' (302 + 10 * e)), .ref (A (54 + e)), .ref (A (58 + e))])) A I' := by
  obtain ⟨h1, h2, h3, h4, h5, h6, h7, h8⟩ := hF
  have ha := h8 e he
  refine ⟨at_n h1 (at_ne h1 ha (by decide)), at_n (at_c h2 (by rw [hI 0 (by omega), hI 1 (by omega), hI 2 (by omega)])) (at_ne h2 ha (by decide)), at_n h3 (at_ne h3 ha (by decide)), at_n h4 (at_ne h4 ha (by decide)), at_n h5 (at_ne h5 ha (by decide)), fun e' he' => ?_, fun q hq => ?_, fun c hc => ?_⟩
  · exact at_n (at_c (h6 e' he') (by rw [hI (100 + 10 * e') (by omega), hI (101 + 10 * e') (by omega), hI (102 + 10 * e') (by omega)])) (at_ne (h6 e' he') ha (by decide))
  · exact at_n (at_c (h7 q hq) (by rw [hI (200 + 10 * q) (by omega), hI (201 + 10 * q) (by omega), hI (202 + 10 * q) (by omega), hI (203 + 10 * q) (by omega)])) (at_ne (h7 q hq) ha (by decide))
  · by_cases hz : c = e
    · subst hz; exact at_s
    · exact at_n (at_c (h8 c hc) (by rw [hI (300 + 10 * c) (by omega), hI (301 + 10 * c) (by omega), hI (302 + 10 * c) (by omega)])) (fun z => hz (hA.2.2.1 c e hc he z))
theorem RF.set0 {gc : Nat → Nat} {h : AH} {A : Nat → Nat} {I I' : Nat → Int32} (hF : RF gc h A I) (hI : ∀ j, 3 ≤ j → I' j = I j) : RF gc (ah_set h (A 0) (9, [.ref (A 1), .ref (A 2), .ref (A 3), .ref (A 40), .ref (A 41), .int (I' 0), .int (I' 1), .int (I' 2)])) A I' := by
  obtain ⟨h1, h2, h3, h4, h5, h6, h7, h8⟩ := hF
  refine ⟨at_n h1 (at_ne h1 h2 (by decide)), at_s, at_n h3 (at_ne h3 h2 (by decide)), at_n h4 (at_ne h4 h2 (by decide)), at_n h5 (at_ne h5 h2 (by decide)), fun e' he' => ?_, fun q hq => ?_, fun c hc => ?_⟩
  · exact at_n (at_c (h6 e' he') (by rw [hI (100 + 10 * e') (by omega), hI (101 + 10 * e') (by omega), hI (102 + 10 * e') (by omega)])) (at_ne (h6 e' he') h2 (by decide))
  · exact at_n (at_c (h7 q hq) (by rw [hI (200 + 10 * q) (by omega), hI (201 + 10 * q) (by omega), hI (202 + 10 * q) (by omega), hI (203 + 10 * q) (by omega)])) (at_ne (h7 q hq) h2 (by decide))
  · exact at_n (at_c (h8 c hc) (by rw [hI (300 + 10 * c) (by omega), hI (301 + 10 * c) (by omega), hI (302 + 10 * c) (by omega)])) (at_ne (h8 c hc) h2 (by decide))
theorem set_set {h : AH} {a : Nat} {e e' : Nat × List Value} : ah_set (ah_set h a e) a e' = ah_set h a e' := by
  unfold ah_set ah_up
  congr 3
  funext b
  by_cases hb : b = a
  · simp [hb]
  · simp [hb]
/-- the class's state: numbers I, contents v, room for F objects; xs the lists' elements, ys those that count (what is being given back no longer counts as held) -/
def RX (gc : Nat → Nat) (h : AH) (A : Nat → Nat) (I : Nat → Int32) (xs ys : Nat → List Nat) (v : Mu) (F : Nat) : Prop := RS gc h A I xs (3000 + F) (800000 + 10 * F) ∧ CT h ys v ∧ ND ys ∧ ∀ k, ¬ (14 ≤ k ∧ k < 18) → ys k = xs k
def RC (gc : Nat → Nat) (h : AH) (A : Nat → Nat) (I : Nat → Int32) (v : Mu) (F : Nat) : Prop := ∃ xs : Nat → List Nat, RX gc h A I xs xs v F
theorem RX.rf {gc : Nat → Nat} {h : AH} {A : Nat → Nat} {I : Nat → Int32} {xs ys : Nat → List Nat} {v : Mu} {F : Nat} (hR : RX gc h A I xs ys v F) : RF gc h A I := hR.1.2.2.1
theorem RX.ok {gc : Nat → Nat} {h : AH} {A : Nat → Nat} {I : Nat → Int32} {xs ys : Nat → List Nat} {v : Mu} {F : Nat} (hR : RX gc h A I xs ys v F) : AOK A ∧ Fr h := ⟨hR.1.1, hR.1.2.1⟩
theorem RC.rf {gc : Nat → Nat} {h : AH} {A : Nat → Nat} {I : Nat → Int32} {v : Mu} {F : Nat} (hR : RC gc h A I v F) : RF gc h A I := by
  obtain ⟨xs, h1⟩ := hR
  exact h1.rf
theorem RC.ok {gc : Nat → Nat} {h : AH} {A : Nat → Nat} {I : Nat → Int32} {v : Mu} {F : Nat} (hR : RC gc h A I v F) : AOK A ∧ Fr h := by
  obtain ⟨xs, h1⟩ := hR
  exact h1.ok
theorem RX.wr {gc : Nat → Nat} {h : AH} {A : Nat → Nat} {I : Nat → Int32} {I' : Nat → Int32} {xs ys : Nat → List Nat} {v : Mu} {F : Nat} {a t : Nat} {vs vs' : List Value} (hR : RX gc h A I xs ys v F) (ha : at_ h a t vs) (ht : t = 2 ∨ t = 6 ∨ t = 8 ∨ t = 9) (hF : RF gc (ah_set h a (t, vs')) A I') : RX gc (ah_set h a (t, vs')) A I' xs ys v F :=
  ⟨hR.1.wr ha ht hF, hR.2.1.ko (KO.set ha (by omega)), hR.2.2⟩
theorem RC.wr {gc : Nat → Nat} {h : AH} {A : Nat → Nat} {I : Nat → Int32} {I' : Nat → Int32} {v : Mu} {F : Nat} {a t : Nat} {vs vs' : List Value} (hR : RC gc h A I v F) (ha : at_ h a t vs) (ht : t = 2 ∨ t = 6 ∨ t = 8 ∨ t = 9) (hF : RF gc (ah_set h a (t, vs')) A I') : RC gc (ah_set h a (t, vs')) A I' v F := by
  obtain ⟨xs, h1⟩ := hR
  exact ⟨xs, h1.wr ha ht hF⟩
theorem RS.le {gc : Nat → Nat} {h : AH} {A : Nat → Nat} {I : Nat → Int32} {xs : Nat → List Nat} {nc ns nc' ns' : Nat} (hR : RS gc h A I xs nc ns) (h1 : nc' ≤ nc) (h2 : ns' ≤ ns) : RS gc h A I xs nc' ns' := by
  obtain ⟨hA, hf, hF, le, lc, hL, b1, b2⟩ := hR
  exact ⟨hA, hf, hF, le, lc, hL, by omega, by omega⟩
theorem RC.le {gc : Nat → Nat} {h : AH} {A : Nat → Nat} {I : Nat → Int32} {v : Mu} {F : Nat} {G : Nat} (hR : RC gc h A I v F) (hl : G ≤ F) : RC gc h A I v G := by
  obtain ⟨xs, h1, h2⟩ := hR
  exact ⟨xs, h1.le (by omega) (by omega), h2⟩
/-- an object more -/
theorem RX.new {gc : Nat → Nat} {h : AH} {A : Nat → Nat} {I : Nat → Int32} {xs ys : Nat → List Nat} {v : Mu} {F : Nat} {t : Nat} {vs : List Value} (hR : RX gc h A I xs ys v (F + 1)) (hl : vs.length ≤ 10) : RX gc (ah_new h (t, vs)) A I xs ys v F ∧ 1 ≤ h.2.1 ∧ 10 ≤ h.2.2.1 ∧ KC h (ah_new h (t, vs)) ∧ KO h (ah_new h (t, vs)) := by
  obtain ⟨h1, h2, h3⟩ := hR
  obtain ⟨g1, g2, g3⟩ := RS.new (nc := 3000 + F) (ns := 800000 + 10 * F) (t := t) (vs := vs) (h1.le (by omega) (by omega)) hl (by omega) (by omega)
  exact ⟨⟨g1, h2.ko (KO.new h1.2.1), h3⟩, by omega, by omega, KC.new h1.2.1, KO.new h1.2.1⟩
/-! exchange, queue, prefetch, begin -/
def opEx (I : Nat → Int32) (x t du : Int32) : Int32 × (Nat → Int32) :=
  if decide (¬ x < 0 ∧ ¬ 4 < x) && decide (¬ t < 0 ∧ ¬ 2 < t) then
    let e := x.toNatClampNeg
    if I (100 + 10 * e) = 0 then (0, upd (upd (upd I (100 + 10 * e) 1) (101 + 10 * e) t) (102 + 10 * e) du)
    else (if I (101 + 10 * e) = t ∧ I (102 + 10 * e) = du then 0 else -3, I)
  else (-1, I)
theorem k_exchange {gc : Nat → Nat} {d : Nat} {h : AH} {A : Nat → Nat} {I : Nat → Int32} {v : Mu} {F : Nat} {x t du : Int32} (hR : RC gc h A I v F) (hdu : du = 0 ∨ du = 1) : WP gc (d + 2) 7 [.ref (A 0), .int x, .int t, .int du] h (fun r h' => r = some (.int (opEx I x t du).1) ∧ RC gc h' A (opEx I x t du).2 v F ∧ KC h h') := by
  have hF := hR.rf
  refine M7 ⟨_, k_isWithin, ?_⟩
  rintro r h' ⟨rfl, rfl⟩
  refine ⟨_, rfl, fun z => B7_18 ?_, fun z => ⟨_, k_isWithin, ?_⟩⟩
  · have z1 := b2i_z.mp z
    unfold opEx
    rw [z1, Bool.false_and, if_neg (by decide)]
    exact ⟨rfl, hR, KC.refl⟩
  · have zx : decide (¬ x < 0 ∧ ¬ 4 < x) = true := by
      cases hz : decide (¬ x < 0 ∧ ¬ 4 < x) with
      | true => rfl
      | false => exact absurd (b2i_z.mpr hz) z
    rintro r h2 ⟨rfl, rfl⟩
    refine ⟨_, rfl, fun z2 => ?_, fun z2 => B7_18 ?_⟩
    · have zt : decide (¬ t < 0 ∧ ¬ 2 < t) = true := by
        cases hz : decide (¬ t < 0 ∧ ¬ 2 < t) with
        | true => rfl
        | false => exact absurd (b2i_z.mpr hz) z2
      have z1 := of_decide_eq_true zx
      obtain ⟨e, he, rfl⟩ := rng (n := 4) (by decide) z1.1 z1.2
      obtain ⟨t', vs, g1, g2, g3, g4⟩ := hF.exA he
      have hex := hF.2.2.2.2.2.1 e he
      have ho : opEx I (nI e) t du = if I (100 + 10 * e) = 0 then (0, upd (upd (upd I (100 + 10 * e) 1) (101 + 10 * e) t) (102 + 10 * e) du) else (if I (101 + 10 * e) = t ∧ I (102 + 10 * e) = du then 0 else -3, I) := by
        unfold opEx
        rw [zx, zt, nI_clamp (by omega)]
        rfl
      refine B7_20 ⟨_, _, hF.2.1, rfl, t', vs, _, g1, g2, g3, g4, _, _, hex, rfl, fun z3 => ?_, fun z3 => ?_⟩
      · refine B7_61 ⟨_, hex, Nat.le_of_ble_eq_true rfl, Or.inr rfl, ?_⟩
        rintro h3 rfl
        refine ⟨_, at_s, Nat.le_of_ble_eq_true rfl, trivial, ?_⟩
        rintro h4 rfl
        refine ⟨_, at_s, Nat.le_of_ble_eq_true rfl, hdu, ?_⟩
        rintro h5 rfl
        rw [set_set, set_set, ho, if_pos z3]
        have hI : ∀ j, ¬ (100 + 10 * e ≤ j ∧ j ≤ 102 + 10 * e) → upd (upd (upd I (100 + 10 * e) 1) (101 + 10 * e) t) (102 + 10 * e) du j = I j := fun j hj => by
          unfold upd
          rw [if_neg (by omega), if_neg (by omega), if_neg (by omega)]
        have key := RF.setE hF hR.ok.1 he hI
        have e1 : upd (upd (upd I (100 + 10 * e) 1) (101 + 10 * e) t) (102 + 10 * e) du (100 + 10 * e) = 1 := by
          unfold upd
          rw [if_neg (by omega), if_neg (by omega), if_pos rfl]
        have e2 : upd (upd (upd I (100 + 10 * e) 1) (101 + 10 * e) t) (102 + 10 * e) du (101 + 10 * e) = t := by
          unfold upd
          rw [if_neg (by omega), if_pos rfl]
        have e3 : upd (upd (upd I (100 + 10 * e) 1) (101 + 10 * e) t) (102 + 10 * e) du (102 + 10 * e) = du := by
          unfold upd
          rw [if_pos rfl]
        rw [e1, e2, e3] at key
        exact ⟨rfl, hR.wr hex (by omega) key, KC.set hex (by decide)⟩
      · rw [if_neg z3] at ho
        have fin : ∀ w : Int32, (if I (101 + 10 * e) = t ∧ I (102 + 10 * e) = du then (0 : Int32) else -3) = w → (some (Value.int w) = some (Value.int (opEx I (nI e) t du).1) ∧ RC gc h2 A (opEx I (nI e) t du).2 v F ∧ KC h2 h2) := fun w hw => by
          rw [ho]
          exact ⟨by rw [← hw], hR, KC.refl⟩
        refine ⟨_, _, hex, rfl, fun z4 => B7_58 (B7_60 (fin _ ?_)), fun z4 => ⟨_, _, hex, rfl, fun z5 => B7_58 (B7_60 (fin _ ?_)), fun z5 => B7_60 (fin _ ?_)⟩⟩
        · rw [if_neg (fun z => z4 z.1)]
        · rw [if_neg (fun z => z5 z.2)]
        · rw [if_pos ⟨z4, z5⟩]
    · have zt := b2i_z.mp z2
      unfold opEx
      rw [zt, Bool.and_false, if_neg (by decide)]
      exact ⟨rfl, hR, KC.refl⟩
end
section
theorem b2i_nz {b : Bool} (h : ¬ b2i b = 0) : b = true := by
  cases b
  · exact absurd rfl h
  · rfl
def wi (x lo hi : Int32) : Bool := decide (¬ x < lo ∧ ¬ hi < x)
theorem wi_rng {x : Int32} {n : Nat} (hn : n < 2 ^ 31) (h : wi x 0 (nI n) = true) : ∃ e : Nat, e < n + 1 ∧ x = nI e := by
  have := of_decide_eq_true h
  exact rng hn this.1 this.2
def opQu (I : Nat → Int32) (x lm de du : Int32) : Int32 × (Nat → Int32) :=
  if wi x 0 5 && wi lm 1 12 && wi de (-1) 4 then
    (let e := x.toNatClampNeg
    if I (200 + 10 * e) = 0 then (0, upd (upd (upd (upd I (200 + 10 * e) 1) (201 + 10 * e) lm) (202 + 10 * e) de) (203 + 10 * e) du)
    else (if I (201 + 10 * e) = lm ∧ I (202 + 10 * e) = de ∧ I (203 + 10 * e) = du then 0 else -3, I))
  else (-1, I)
theorem k_queue {gc : Nat → Nat} {d : Nat} {h : AH} {A : Nat → Nat} {I : Nat → Int32} {v : Mu} {F : Nat} {x lm de du : Int32} (hR : RC gc h A I v F) (hdu : du = 0 ∨ du = 1) : WP gc (d + 2) 9 [.ref (A 0), .int x, .int lm, .int de, .int du] h (fun r h' => r = some (.int (opQu I x lm de du).1) ∧ RC gc h' A (opQu I x lm de du).2 v F ∧ KC h h') := by
  have hF := hR.rf
  have bad : (wi x 0 5 && wi lm 1 12 && wi de (-1) 4) = false → (some (Value.int (-1)) = some (Value.int (opQu I x lm de du).1) ∧ RC gc h A (opQu I x lm de du).2 v F ∧ KC h h) := fun hb => by
    unfold opQu
    rw [hb, if_neg (by decide)]
    exact ⟨rfl, hR, KC.refl⟩
  refine M9 ⟨_, k_isWithin, ?_⟩
  rintro r h' ⟨rfl, rfl⟩
  refine ⟨_, rfl, fun z => B9_28 (bad ?_), fun zx => ⟨_, k_isWithin, ?_⟩⟩
  · rw [show wi x 0 5 = false from b2i_z.mp z, Bool.false_and, Bool.false_and]
  rintro r h' ⟨rfl, rfl⟩
  have zx : wi x 0 5 = true := b2i_nz zx
  refine ⟨_, rfl, fun z => B9_28 (bad ?_), fun zl => ⟨_, k_isWithin, ?_⟩⟩
  · rw [show wi lm 1 12 = false from b2i_z.mp z, Bool.and_false, Bool.false_and]
  rintro r h' ⟨rfl, rfl⟩
  have zl : wi lm 1 12 = true := b2i_nz zl
  refine ⟨_, rfl, fun zd => ?_, fun z => B9_28 (bad ?_)⟩
  rotate_left
  · rw [show wi de (-1) 4 = false from b2i_z.mp z, Bool.and_false]
  have zd : wi de (-1) 4 = true := b2i_nz zd
  obtain ⟨e, he, rfl⟩ := wi_rng (n := 5) (by decide) zx
  obtain ⟨t', vs, g1, g2, g3, g4⟩ := hF.quA he
  have hex := hF.2.2.2.2.2.2.1 e he
  have ho : opQu I (nI e) lm de du = if I (200 + 10 * e) = 0 then (0, upd (upd (upd (upd I (200 + 10 * e) 1) (201 + 10 * e) lm) (202 + 10 * e) de) (203 + 10 * e) du)
    else (if I (201 + 10 * e) = lm ∧ I (202 + 10 * e) = de ∧ I (203 + 10 * e) = du then 0 else -3, I) := by
    unfold opQu
    rw [zx, zl, zd, nI_clamp (by omega)]
    rfl
  refine B9_30 ⟨_, _, hF.2.1, rfl, t', vs, _, g1, g2, g3, g4, _, _, hex, rfl, fun z3 => ?_, fun z3 => ?_⟩
  · refine B9_81 ⟨_, hex, Nat.le_of_ble_eq_true rfl, Or.inr rfl, ?_⟩
    rintro h3 rfl
    refine ⟨_, at_s, Nat.le_of_ble_eq_true rfl, trivial, ?_⟩
    rintro h4 rfl
    refine ⟨_, at_s, Nat.le_of_ble_eq_true rfl, trivial, ?_⟩
    rintro h5 rfl
    refine ⟨_, at_s, Nat.le_of_ble_eq_true rfl, hdu, ?_⟩
    rintro h6 rfl
    rw [set_set, set_set, set_set, ho, if_pos z3]
    generalize hU : upd (upd (upd (upd I (200 + 10 * e) 1) (201 + 10 * e) lm) (202 + 10 * e) de) (203 + 10 * e) du = U
    have key := RF.setQ (I' := U) hF hR.ok.1 he (fun j hj => by
      rw [← hU]
      unfold upd
      rw [if_neg (by omega), if_neg (by omega), if_neg (by omega), if_neg (by omega)])
    have e1 : U (200 + 10 * e) = 1 := by
      rw [← hU]
      unfold upd
      rw [if_neg (by omega), if_neg (by omega), if_neg (by omega), if_pos rfl]
    have e2 : U (201 + 10 * e) = lm := by
      rw [← hU]
      unfold upd
      rw [if_neg (by omega), if_neg (by omega), if_pos rfl]
    have e3 : U (202 + 10 * e) = de := by
      rw [← hU]
      unfold upd
      rw [if_neg (by omega), if_pos rfl]
    have e4 : U (203 + 10 * e) = du := by
      rw [← hU]
      unfold upd
      rw [if_pos rfl]
    rw [e1, e2, e3, e4] at key
    exact ⟨rfl, hR.wr hex (by omega) key, KC.set hex (by decide)⟩
  · rw [if_neg z3] at ho
    have fin : ∀ w : Int32, (if I (201 + 10 * e) = lm ∧ I (202 + 10 * e) = de ∧ I (203 + 10 * e) = du then (0 : Int32) else -3) = w → (some (Value.int w) = some (Value.int (opQu I (nI e) lm de du).1) ∧ RC gc h' A (opQu I (nI e) lm de du).2 v F ∧ KC h' h') := fun w hw => by
      rw [ho]
      exact ⟨by rw [← hw], hR, KC.refl⟩
    refine ⟨_, _, hex, rfl, fun z4 => B9_78 (B9_80 (fin _ ?_)), fun z4 => ⟨_, _, hex, rfl, fun z5 => B9_78 (B9_80 (fin _ ?_)), fun z5 => ⟨_, _, hex, rfl, fun z6 => B9_78 (B9_80 (fin _ ?_)), fun z6 => B9_80 (fin _ ?_)⟩⟩⟩
    · rw [if_neg (fun z => z4 z.1)]
    · rw [if_neg (fun z => z5 z.2.1)]
    · rw [if_neg (fun z => z6 z.2.2)]
    · rw [if_pos ⟨z4, z5, z6⟩]
def opPf (I : Nat → Int32) (x n : Int32) : Int32 × (Nat → Int32) :=
  if wi x 0 3 && wi n 1 12 then (0, upd I (300 + 10 * x.toNatClampNeg) n) else (-1, I)
theorem RX.wrC {gc : Nat → Nat} {h : AH} {A : Nat → Nat} {I : Nat → Int32} {U : Nat → Int32} {xs ys : Nat → List Nat} {v : Mu} {F : Nat} {e : Nat} {n0 n1 n2 : Int32} (hR : RX gc h A I xs ys v F) (he : e < 4) (hI : ∀ j, ¬ (300 + 10 * e ≤ j ∧ j ≤ 302 + 10 * e) → U j = I j) (e0 : U (300 + 10 * e) = n0) (e1 : U (301 + 10 * e) = n1) (e2 : U (302 + 10 * e) = n2) : RX gc (ah_set h (A (30 + e)) (2, [.int n0, .int n1, .int n2, .ref (A (54 + e)), .ref (A (58 + e))])) A U xs ys v F ∧ KC h (ah_set h (A (30 + e)) (2, [.int n0, .int n1, .int n2, .ref (A (54 + e)), .ref (A (58 + e))])) ∧ KO h (ah_set h (A (30 + e)) (2, [.int n0, .int n1, .int n2, .ref (A (54 + e)), .ref (A (58 + e))])) := by
  have hex := hR.rf.2.2.2.2.2.2.2 e he
  have key := RF.setC (I' := U) hR.rf hR.ok.1 he hI
  rw [e0, e1, e2] at key
  exact ⟨hR.wr hex (by omega) key, KC.set hex (by decide), KO.set hex (by decide)⟩
/-- a channel's numbers are written -/
theorem RC.wrC {gc : Nat → Nat} {h : AH} {A : Nat → Nat} {I U : Nat → Int32} {v : Mu} {F e : Nat} {n0 n1 n2 : Int32} (hR : RC gc h A I v F) (he : e < 4) (hI : ∀ j, ¬ (300 + 10 * e ≤ j ∧ j ≤ 302 + 10 * e) → U j = I j) (e0 : U (300 + 10 * e) = n0) (e1 : U (301 + 10 * e) = n1) (e2 : U (302 + 10 * e) = n2) : RC gc (ah_set h (A (30 + e)) (2, [.int n0, .int n1, .int n2, .ref (A (54 + e)), .ref (A (58 + e))])) A U v F ∧ KC h (ah_set h (A (30 + e)) (2, [.int n0, .int n1, .int n2, .ref (A (54 + e)), .ref (A (58 + e))])) := by
  have hex := hR.rf.2.2.2.2.2.2.2 e he
  have key := RF.setC (I' := U) hR.rf hR.ok.1 he hI
  rw [e0, e1, e2] at key
  exact ⟨hR.wr hex (by omega) key, KC.set hex (by decide)⟩
theorem k_prefetch {gc : Nat → Nat} {d : Nat} {h : AH} {A : Nat → Nat} {I : Nat → Int32} {v : Mu} {F : Nat} {x n : Int32} (hR : RC gc h A I v F) : WP gc (d + 3) 73 [.ref (A 0), .int x, .int n] h (fun r h' => r = some (.int (opPf I x n).1) ∧ RC gc h' A (opPf I x n).2 v F ∧ KC h h') := by
  have hF := hR.rf
  have bad : (wi x 0 3 && wi n 1 12) = false → (some (Value.int (-1)) = some (Value.int (opPf I x n).1) ∧ RC gc h A (opPf I x n).2 v F ∧ KC h h) := fun hb => by
    unfold opPf
    rw [hb, if_neg (by decide)]
    exact ⟨rfl, hR, KC.refl⟩
  refine M73 ⟨_, k_isChannel, ?_⟩
  rintro r h' ⟨rfl, rfl⟩
  refine ⟨_, rfl, fun z => B73_17 (bad ?_), fun zx => ⟨_, k_isWithin, ?_⟩⟩
  · rw [show wi x 0 3 = false from b2i_z.mp z, Bool.false_and]
  rintro r h' ⟨rfl, rfl⟩
  have zx : wi x 0 3 = true := b2i_nz zx
  refine ⟨_, rfl, fun zl => ?_, fun z => B73_17 (bad ?_)⟩
  rotate_left
  · rw [show wi n 1 12 = false from b2i_z.mp z, Bool.and_false]
  have zl : wi n 1 12 = true := b2i_nz zl
  obtain ⟨e, he, rfl⟩ := wi_rng (n := 3) (by decide) zx
  obtain ⟨t', vs, g1, g2, g3, g4⟩ := hF.chA he
  have hex := hF.2.2.2.2.2.2.2 e he
  have ho : opPf I (nI e) n = (0, upd I (300 + 10 * e) n) := by
    unfold opPf
    rw [zx, zl, nI_clamp (by omega)]
    rfl
  refine B73_19 ⟨_, _, hF.2.1, rfl, t', vs, _, g1, g2, g3, g4, _, hex, Nat.le_of_ble_eq_true rfl, trivial, ?_⟩
  rintro h3 rfl
  rw [ho]
  refine ⟨rfl, hR.wrC he (U := upd I (300 + 10 * e) n) (fun j hj => ?_) ?_ ?_ ?_⟩
  · unfold upd; rw [if_neg (by omega)]
  · unfold upd; rw [if_pos rfl]
  · unfold upd; rw [if_neg (by omega)]
  · unfold upd; rw [if_neg (by omega)]
def opBg (I : Nat → Int32) (x : Int32) : Int32 × (Nat → Int32) :=
  if wi x 0 3 then (if I (301 + 10 * x.toNatClampNeg) = 0 then (0, upd I (301 + 10 * x.toNatClampNeg) 1) else (-3, I)) else (-1, I)
theorem k_begin {gc : Nat → Nat} {d : Nat} {h : AH} {A : Nat → Nat} {I : Nat → Int32} {v : Mu} {F : Nat} {x : Int32} (hR : RC gc h A I v F) : WP gc (d + 3) 74 [.ref (A 0), .int x] h (fun r h' => r = some (.int (opBg I x).1) ∧ RC gc h' A (opBg I x).2 v F ∧ KC h h') := by
  have hF := hR.rf
  refine M74 ⟨_, k_isChannel, ?_⟩
  rintro r h' ⟨rfl, rfl⟩
  refine ⟨_, rfl, fun zx => ?_, fun z => ?_⟩
  · have zx : wi x 0 3 = true := b2i_nz zx
    obtain ⟨e, he, rfl⟩ := wi_rng (n := 3) (by decide) zx
    obtain ⟨t', vs, g1, g2, g3, g4⟩ := hF.chA he
    have hex := hF.2.2.2.2.2.2.2 e he
    have ho : opBg I (nI e) = if I (301 + 10 * e) = 0 then (0, upd I (301 + 10 * e) 1) else (-3, I) := by
      unfold opBg
      rw [zx, nI_clamp (by omega)]
      rfl
    refine B74_9 ⟨_, _, hF.2.1, rfl, t', vs, _, g1, g2, g3, g4, _, _, hex, rfl, fun z3 => B74_24 ⟨_, _, hF.2.1, rfl, t', vs, _, g1, g2, g3, g4, _, hex, Nat.le_of_ble_eq_true rfl, Or.inr rfl, ?_⟩, fun z3 => ?_⟩
    · rintro h3 rfl
      rw [ho, if_pos z3]
      refine ⟨rfl, hR.wrC he (U := upd I (301 + 10 * e) 1) (fun j hj => ?_) ?_ ?_ ?_⟩
      · unfold upd; rw [if_neg (by omega)]
      · unfold upd; rw [if_neg (by omega)]
      · unfold upd; rw [if_pos rfl]
      · unfold upd; rw [if_neg (by omega)]
    · rw [ho, if_neg z3]
      exact ⟨rfl, hR, KC.refl⟩
  · unfold opBg
    rw [show wi x 0 3 = false from b2i_z.mp z, if_neg (by decide)]
    exact ⟨rfl, hR, KC.refl⟩
end
section
/-! the lists' methods, over contents -/
theorem lt_B {k : Nat} (h : isB k) : k < 22 := by unfold isB at h; omega
theorem lt_C {k : Nat} (h : isC k) : k < 22 := by unfold isC at h; omega
theorem lt_R {k : Nat} (h : isR k) : k < 22 := by unfold isR at h; omega
theorem lt_D {k : Nat} (h : isD k) : k < 22 := by unfold isD at h; omega
theorem RX.xB {gc : Nat → Nat} {h : AH} {A : Nat → Nat} {I : Nat → Int32} {xs ys : Nat → List Nat} {v : Mu} {F : Nat} {k : Nat} (hR : RX gc h A I xs ys v F) (hk : isB k) : ys k = xs k := hR.2.2.2 k (by unfold isB at hk; omega)
theorem RX.xR {gc : Nat → Nat} {h : AH} {A : Nat → Nat} {I : Nat → Int32} {xs ys : Nat → List Nat} {v : Mu} {F : Nat} {k : Nat} (hR : RX gc h A I xs ys v F) (hk : isR k) : ys k = xs k := hR.2.2.2 k (by unfold isR at hk; omega)
theorem RX.xD {gc : Nat → Nat} {h : AH} {A : Nat → Nat} {I : Nat → Int32} {xs ys : Nat → List Nat} {v : Mu} {F : Nat} {k : Nat} (hR : RX gc h A I xs ys v F) (hk : isD k) : ys k = xs k := hR.2.2.2 k (by unfold isD at hk; omega)
theorem RX.xL {gc : Nat → Nat} {h : AH} {A : Nat → Nat} {I : Nat → Int32} {xs ys : Nat → List Nat} {v : Mu} {F : Nat} {k : Nat} (hR : RX gc h A I xs ys v F) (hk : k < 8) : ys k = xs k := hR.2.2.2 k (by omega)
theorem nodup_er {l : List Nat} (h : l.Nodup) (j : Nat) : (l.eraseIdx j).Nodup := List.Pairwise.sublist (List.eraseIdx_sublist l j) h
theorem er_not {a : Nat} : ∀ {l : List Nat} {j : Nat}, l.Nodup → l[j]? = some a → a ∉ l.eraseIdx j := by
  intro l
  induction l with
  | nil => intro j _ h; cases h
  | cons b l ih =>
    intro j hn h
    rw [List.nodup_cons] at hn
    cases j with
    | zero =>
      have : b = a := Option.some.inj h
      subst this
      exact hn.1
    | succ j =>
      have h : l[j]? = some a := h
      show a ∉ b :: l.eraseIdx j
      intro hm
      rcases List.mem_cons.mp hm with rfl | hm
      · exact hn.1 (List.mem_of_getElem? h)
      · exact ih hn.2 h hm
theorem nodup_app {l : List Nat} {a : Nat} (h : l.Nodup) (ha : a ∉ l) : (l ++ [a]).Nodup := by
  refine List.pairwise_append.mpr ⟨h, List.pairwise_singleton _ _, fun x hx y hy => ?_⟩
  rw [List.mem_singleton.mp hy]
  intro z
  exact ha (z ▸ hx)
theorem nodup_ins {l : List Nat} {a i : Nat} (h : l.Nodup) (ha : a ∉ l) : (ins l i a).Nodup := by
  unfold ins
  have h2 : (l.take i ++ l.drop i).Nodup := by rw [List.take_append_drop]; exact h
  obtain ⟨g1, g2, g3⟩ := List.pairwise_append.mp h2
  refine List.pairwise_append.mpr ⟨g1, List.pairwise_cons.mpr ⟨fun y hy z => ?_, g2⟩, fun x hx y hy => ?_⟩
  · exact ha (z ▸ List.mem_of_mem_drop hy)
  · rcases List.mem_cons.mp hy with rfl | hy
    · intro z
      exact ha (z ▸ List.mem_of_mem_take hx)
    · exact g3 x hx y hy
theorem RX.agr {xs ys : Nat → List Nat} {k : Nat} {as : List Nat} (h : ∀ j, ¬ (14 ≤ j ∧ j < 18) → ys j = xs j) : ∀ j, ¬ (14 ≤ j ∧ j < 18) → va_up ys k as j = va_up xs k as j := fun j hj => by
  by_cases hz : j = k
  · subst hz; rw [va_up_self, va_up_self]
  · rw [va_up_ne _ _ hz, va_up_ne _ _ hz, h j hj]
/-- nobody has it -/
def free (ys : Nat → List Nat) (a : Nat) : Prop := ∀ l, isC l → a ∉ ys l
theorem ND.frm {ys : Nat → List Nat} {k a : Nat} {as : List Nat} (hf : free ys a) (ha : a ∉ as) : free (va_up ys k as) a := fun l hl => by
  by_cases hz : l = k
  · subst hz; rw [va_up_self]; exact ha
  · rw [va_up_ne _ _ hz]; exact hf l hl
theorem ND.nC {ys : Nat → List Nat} (hn : ND ys) {k : Nat} {as : List Nat} (hk : ¬ isC k) : ND (va_up ys k as) := hn.up (fun z => absurd z hk) (fun z => absurd z hk)
theorem ND.er {ys : Nat → List Nat} (hn : ND ys) {k j a : Nat} (hk : isC k) (ha : (ys k)[j]? = some a) : ND (va_up ys k ((ys k).eraseIdx j)) ∧ free (va_up ys k ((ys k).eraseIdx j)) a := by
  refine ⟨hn.up (fun z => nodup_er (hn.1 k hk) j) (fun _ b l hb hl hz hm => hz (hn.2 l k b hl hk hm (List.mem_of_mem_eraseIdx hb))), fun l hl => ?_⟩
  by_cases hz : l = k
  · subst hz; rw [va_up_self]; exact er_not (hn.1 l hl) ha
  · rw [va_up_ne _ _ hz]
    intro hm
    exact hz (hn.2 l k a hl hk hm (List.mem_of_getElem? ha))
theorem ND.app {ys : Nat → List Nat} (hn : ND ys) {k a : Nat} (hk : isC k) (hf : free ys a) : ND (va_up ys k (ys k ++ [a])) := by
  refine hn.up (fun z => nodup_app (hn.1 k hk) (hf k hk)) (fun _ b l hb hl hz hm => ?_)
  rcases List.mem_append.mp hb with hb | hb
  · exact hz (hn.2 l k b hl hk hm hb)
  · rw [List.mem_singleton.mp hb] at hm
    exact hf l hl hm
theorem ND.ins {ys : Nat → List Nat} (hn : ND ys) {k a i : Nat} (hk : isC k) (hf : free ys a) : ND (va_up ys k (ins (ys k) i a)) := by
  refine hn.up (fun z => nodup_ins (hn.1 k hk) (hf k hk)) (fun _ b l hb hl hz hm => ?_)
  rcases mem_ins hb with rfl | hb
  · exact hf l hl hm
  · exact hz (hn.2 l k b hl hk hm hb)
theorem ND.clr {ys : Nat → List Nat} (hn : ND ys) {k : Nat} : ND (va_up ys k []) := hn.up (fun _ => List.nodup_nil) (fun _ a l ha => by cases ha)
theorem RX.lenB {gc : Nat → Nat} {h : AH} {A : Nat → Nat} {I : Nat → Int32} {xs ys : Nat → List Nat} {v : Mu} {F : Nat} {k : Nat} (hR : RX gc h A I xs ys v F) (hk : isB k) (hx : ys k = xs k) : (xs k).length = (uB v k).length := by
  rw [← hx]
  exact (hR.2.1.B hk).len
theorem rx_sizeB {gc : Nat → Nat} {d : Nat} {h : AH} {A : Nat → Nat} {I : Nat → Int32} {xs ys : Nat → List Nat} {v : Mu} {F : Nat} {k : Nat} (hR : RX gc h A I xs ys v F) (hk : isB k) (hx : ys k = xs k) : WP gc (d + 1) 17 [.ref (A (40 + k))] h (fun r h' => r = some (.int (nI (uB v k).length)) ∧ h' = h) := by
  rw [← hR.lenB hk hx]
  exact rs_size hR.1 (lt_B hk)
theorem rx_getB {gc : Nat → Nat} {d : Nat} {h : AH} {A : Nat → Nat} {I : Nat → Int32} {xs ys : Nat → List Nat} {v : Mu} {F : Nat} {k j : Nat} (hR : RX gc h A I xs ys v F) (hk : isB k) (hx : ys k = xs k) (hj : j < (uB v k).length) : WP gc (d + 3) 18 [.ref (A (40 + k)), .int (nI j)] h (fun r h' => ∃ a, r = some (.ref a) ∧ h' = h ∧ (ys k)[j]? = some a ∧ ((BdAt h) a (uB v k)[j])) := by
  have ha := hR.2.1.B hk
  have hl := ha.len
  have hj' : j < (xs k).length := by rw [← hx, hl]; exact hj
  have hj2 : j < (ys k).length := by rw [hl]; exact hj
  refine WP_post (rs_get hR.1 (lt_B hk) hj') ?_
  rintro r h' ⟨rfl, rfl⟩
  have e : (ys k)[j] = (xs k)[j] := by simp only [hx]
  refine ⟨_, rfl, rfl, ?_, ?_⟩
  · rw [← e, List.getElem?_eq_getElem hj2]
  · rw [← e]
    exact ha.get j hj2 hj
theorem rx_clrB {gc : Nat → Nat} {d : Nat} {h : AH} {A : Nat → Nat} {I : Nat → Int32} {xs ys : Nat → List Nat} {v : Mu} {F : Nat} {k : Nat} (hR : RX gc h A I xs ys v F) (hk : isB k) : WP gc (d + 1) 38 [.ref (A (40 + k))] h (fun r h' => r = none ∧ RX gc h' A I (va_up xs k []) (va_up ys k []) (upB v k []) F ∧ KL h h') := by
  refine WP_post (rs_clear hR.1 (lt_B hk)) ?_
  rintro r h' ⟨rfl, g1, g2, -⟩
  exact ⟨rfl, ⟨g1, (hR.2.1.ko g2.ko).upB hk trivial, hR.2.2.1.clr, RX.agr hR.2.2.2⟩, g2⟩
theorem rx_rmB {gc : Nat → Nat} {d : Nat} {h : AH} {A : Nat → Nat} {I : Nat → Int32} {xs ys : Nat → List Nat} {v : Mu} {F : Nat} {k j : Nat} (hR : RX gc h A I xs ys v F) (hk : isB k) (hx : ys k = xs k) (hj : j < (uB v k).length) : WP gc (d + 3) 32 [.ref (A (40 + k)), .int (nI j)] h (fun r h' => ∃ a, r = some (.ref a) ∧ RX gc h' A I (va_up xs k ((xs k).eraseIdx j)) (va_up ys k ((ys k).eraseIdx j)) (upB v k ((uB v k).eraseIdx j)) F ∧ KL h h' ∧ (ys k)[j]? = some a ∧ ((BdAt h') a (uB v k)[j])) := by
  have ha := hR.2.1.B hk
  have hl := ha.len
  have hj' : j < (xs k).length := by rw [← hx, hl]; exact hj
  have hj2 : j < (ys k).length := by rw [hl]; exact hj
  refine WP_post (rs_remove hR.1 (lt_B hk) hj') ?_
  rintro r h' ⟨rfl, g1, g2, -⟩
  have e : (ys k)[j] = (xs k)[j] := by simp only [hx]
  have e2 : (ys k)[j]? = some (xs k)[j] := by rw [← e, List.getElem?_eq_getElem hj2]
  have hc := hR.2.1.ko g2.ko
  refine ⟨_, rfl, ⟨g1, hc.upB hk ((hc.B hk).erase j), ?_, ?_⟩, g2, e2, ?_⟩
  · by_cases hz : isC k
    · exact (hR.2.2.1.er hz e2).1
    · exact hR.2.2.1.nC hz
  · rw [hx]; exact RX.agr hR.2.2.2
  · rw [← e]
    exact (hc.B hk).get j hj2 hj
theorem rx_addB {gc : Nat → Nat} {d : Nat} {h : AH} {A : Nat → Nat} {I : Nat → Int32} {xs ys : Nat → List Nat} {v : Mu} {F : Nat} {k a : Nat} {x : Bnd} (hR : RX gc h A I xs ys v F) (hk : isB k) (hx : ys k = xs k) (hl : (uB v k).length ≤ (if k = 1 then 449 else 65)) (ha : (BdAt h) a x) (hf : isC k → free ys a) : WP gc (d + 6) 23 [.ref (A (40 + k)), .ref a] h (fun r h' => r = some (.int 1) ∧ RX gc h' A I (va_up xs k (xs k ++ [a])) (va_up ys k (ys k ++ [a])) (upB v k (uB v k ++ [x])) F ∧ KL h h') := by
  obtain ⟨ws, hw⟩ := ha.tag
  refine WP_post (rs_add hR.1 (lt_B hk) (by rw [hR.lenB hk hx]; exact hl) (by omega) (by omega) hw rfl) ?_
  rintro r h' ⟨rfl, g1, g2, -⟩
  have hc := hR.2.1.ko g2.ko
  refine ⟨rfl, ⟨g1, hc.upB hk ((hc.B hk).one (ha.ko g2.ko)), ?_, ?_⟩, g2⟩
  · by_cases hz : isC k
    · exact hR.2.2.1.app hz (hf hz)
    · exact hR.2.2.1.nC hz
  · rw [hx]; exact RX.agr hR.2.2.2
theorem RX.lenC {gc : Nat → Nat} {h : AH} {A : Nat → Nat} {I : Nat → Int32} {xs ys : Nat → List Nat} {v : Mu} {F : Nat} {k : Nat} (hR : RX gc h A I xs ys v F) (hk : isC k) (hx : ys k = xs k) : (xs k).length = (uC v k).length := by
  rw [← hx]
  exact (hR.2.1.C hk).len
theorem rx_sizeC {gc : Nat → Nat} {d : Nat} {h : AH} {A : Nat → Nat} {I : Nat → Int32} {xs ys : Nat → List Nat} {v : Mu} {F : Nat} {k : Nat} (hR : RX gc h A I xs ys v F) (hk : isC k) (hx : ys k = xs k) : WP gc (d + 1) 17 [.ref (A (40 + k))] h (fun r h' => r = some (.int (nI (uC v k).length)) ∧ h' = h) := by
  rw [← hR.lenC hk hx]
  exact rs_size hR.1 (lt_C hk)
theorem rx_getC {gc : Nat → Nat} {d : Nat} {h : AH} {A : Nat → Nat} {I : Nat → Int32} {xs ys : Nat → List Nat} {v : Mu} {F : Nat} {k j : Nat} (hR : RX gc h A I xs ys v F) (hk : isC k) (hx : ys k = xs k) (hj : j < (uC v k).length) : WP gc (d + 3) 18 [.ref (A (40 + k)), .int (nI j)] h (fun r h' => ∃ a, r = some (.ref a) ∧ h' = h ∧ (ys k)[j]? = some a ∧ ((CpAt k h) a (uC v k)[j])) := by
  have ha := hR.2.1.C hk
  have hl := ha.len
  have hj' : j < (xs k).length := by rw [← hx, hl]; exact hj
  have hj2 : j < (ys k).length := by rw [hl]; exact hj
  refine WP_post (rs_get hR.1 (lt_C hk) hj') ?_
  rintro r h' ⟨rfl, rfl⟩
  have e : (ys k)[j] = (xs k)[j] := by simp only [hx]
  refine ⟨_, rfl, rfl, ?_, ?_⟩
  · rw [← e, List.getElem?_eq_getElem hj2]
  · rw [← e]
    exact ha.get j hj2 hj
theorem rx_clrC {gc : Nat → Nat} {d : Nat} {h : AH} {A : Nat → Nat} {I : Nat → Int32} {xs ys : Nat → List Nat} {v : Mu} {F : Nat} {k : Nat} (hR : RX gc h A I xs ys v F) (hk : isC k) : WP gc (d + 1) 38 [.ref (A (40 + k))] h (fun r h' => r = none ∧ RX gc h' A I (va_up xs k []) (va_up ys k []) (upC v k []) F ∧ KL h h') := by
  refine WP_post (rs_clear hR.1 (lt_C hk)) ?_
  rintro r h' ⟨rfl, g1, g2, -⟩
  exact ⟨rfl, ⟨g1, (hR.2.1.ko g2.ko).upC hk trivial, hR.2.2.1.clr, RX.agr hR.2.2.2⟩, g2⟩
theorem rx_rmC {gc : Nat → Nat} {d : Nat} {h : AH} {A : Nat → Nat} {I : Nat → Int32} {xs ys : Nat → List Nat} {v : Mu} {F : Nat} {k j : Nat} (hR : RX gc h A I xs ys v F) (hk : isC k) (hx : ys k = xs k) (hj : j < (uC v k).length) : WP gc (d + 3) 32 [.ref (A (40 + k)), .int (nI j)] h (fun r h' => ∃ a, r = some (.ref a) ∧ RX gc h' A I (va_up xs k ((xs k).eraseIdx j)) (va_up ys k ((ys k).eraseIdx j)) (upC v k ((uC v k).eraseIdx j)) F ∧ KL h h' ∧ (ys k)[j]? = some a ∧ ((CpAt k h') a (uC v k)[j])) := by
  have ha := hR.2.1.C hk
  have hl := ha.len
  have hj' : j < (xs k).length := by rw [← hx, hl]; exact hj
  have hj2 : j < (ys k).length := by rw [hl]; exact hj
  refine WP_post (rs_remove hR.1 (lt_C hk) hj') ?_
  rintro r h' ⟨rfl, g1, g2, -⟩
  have e : (ys k)[j] = (xs k)[j] := by simp only [hx]
  have e2 : (ys k)[j]? = some (xs k)[j] := by rw [← e, List.getElem?_eq_getElem hj2]
  have hc := hR.2.1.ko g2.ko
  refine ⟨_, rfl, ⟨g1, hc.upC hk ((hc.C hk).erase j), ?_, ?_⟩, g2, e2, ?_⟩
  · by_cases hz : isC k
    · exact (hR.2.2.1.er hz e2).1
    · exact hR.2.2.1.nC hz
  · rw [hx]; exact RX.agr hR.2.2.2
  · rw [← e]
    exact (hc.C hk).get j hj2 hj
theorem rx_addC {gc : Nat → Nat} {d : Nat} {h : AH} {A : Nat → Nat} {I : Nat → Int32} {xs ys : Nat → List Nat} {v : Mu} {F : Nat} {k a : Nat} {x : Rec} (hR : RX gc h A I xs ys v F) (hk : isC k) (hx : ys k = xs k) (hl : (uC v k).length ≤ (if k = 1 then 449 else 65)) (ha : (CpAt k h) a x) (hf : isC k → free ys a) : WP gc (d + 6) 23 [.ref (A (40 + k)), .ref a] h (fun r h' => r = some (.int 1) ∧ RX gc h' A I (va_up xs k (xs k ++ [a])) (va_up ys k (ys k ++ [a])) (upC v k (uC v k ++ [x])) F ∧ KL h h') := by
  obtain ⟨ws, hw⟩ := ha.tag
  refine WP_post (rs_add hR.1 (lt_C hk) (by rw [hR.lenC hk hx]; exact hl) (by omega) (by omega) hw rfl) ?_
  rintro r h' ⟨rfl, g1, g2, -⟩
  have hc := hR.2.1.ko g2.ko
  refine ⟨rfl, ⟨g1, hc.upC hk ((hc.C hk).one (ha.ko g2.ko)), ?_, ?_⟩, g2⟩
  · by_cases hz : isC k
    · exact hR.2.2.1.app hz (hf hz)
    · exact hR.2.2.1.nC hz
  · rw [hx]; exact RX.agr hR.2.2.2
theorem RX.lenR {gc : Nat → Nat} {h : AH} {A : Nat → Nat} {I : Nat → Int32} {xs ys : Nat → List Nat} {v : Mu} {F : Nat} {k : Nat} (hR : RX gc h A I xs ys v F) (hk : isR k) (hx : ys k = xs k) : (xs k).length = (uR v k).length := by
  rw [← hx]
  exact (hR.2.1.R hk).len
theorem rx_sizeR {gc : Nat → Nat} {d : Nat} {h : AH} {A : Nat → Nat} {I : Nat → Int32} {xs ys : Nat → List Nat} {v : Mu} {F : Nat} {k : Nat} (hR : RX gc h A I xs ys v F) (hk : isR k) (hx : ys k = xs k) : WP gc (d + 1) 17 [.ref (A (40 + k))] h (fun r h' => r = some (.int (nI (uR v k).length)) ∧ h' = h) := by
  rw [← hR.lenR hk hx]
  exact rs_size hR.1 (lt_R hk)
theorem rx_getR {gc : Nat → Nat} {d : Nat} {h : AH} {A : Nat → Nat} {I : Nat → Int32} {xs ys : Nat → List Nat} {v : Mu} {F : Nat} {k j : Nat} (hR : RX gc h A I xs ys v F) (hk : isR k) (hx : ys k = xs k) (hj : j < (uR v k).length) : WP gc (d + 3) 18 [.ref (A (40 + k)), .int (nI j)] h (fun r h' => ∃ a, r = some (.ref a) ∧ h' = h ∧ (ys k)[j]? = some a ∧ ((CnAt h) a (uR v k)[j])) := by
  have ha := hR.2.1.R hk
  have hl := ha.len
  have hj' : j < (xs k).length := by rw [← hx, hl]; exact hj
  have hj2 : j < (ys k).length := by rw [hl]; exact hj
  refine WP_post (rs_get hR.1 (lt_R hk) hj') ?_
  rintro r h' ⟨rfl, rfl⟩
  have e : (ys k)[j] = (xs k)[j] := by simp only [hx]
  refine ⟨_, rfl, rfl, ?_, ?_⟩
  · rw [← e, List.getElem?_eq_getElem hj2]
  · rw [← e]
    exact ha.get j hj2 hj
theorem rx_clrR {gc : Nat → Nat} {d : Nat} {h : AH} {A : Nat → Nat} {I : Nat → Int32} {xs ys : Nat → List Nat} {v : Mu} {F : Nat} {k : Nat} (hR : RX gc h A I xs ys v F) (hk : isR k) : WP gc (d + 1) 38 [.ref (A (40 + k))] h (fun r h' => r = none ∧ RX gc h' A I (va_up xs k []) (va_up ys k []) (upR v k []) F ∧ KL h h') := by
  refine WP_post (rs_clear hR.1 (lt_R hk)) ?_
  rintro r h' ⟨rfl, g1, g2, -⟩
  exact ⟨rfl, ⟨g1, (hR.2.1.ko g2.ko).upR hk trivial, hR.2.2.1.clr, RX.agr hR.2.2.2⟩, g2⟩
theorem rx_rmR {gc : Nat → Nat} {d : Nat} {h : AH} {A : Nat → Nat} {I : Nat → Int32} {xs ys : Nat → List Nat} {v : Mu} {F : Nat} {k j : Nat} (hR : RX gc h A I xs ys v F) (hk : isR k) (hx : ys k = xs k) (hj : j < (uR v k).length) : WP gc (d + 3) 32 [.ref (A (40 + k)), .int (nI j)] h (fun r h' => ∃ a, r = some (.ref a) ∧ RX gc h' A I (va_up xs k ((xs k).eraseIdx j)) (va_up ys k ((ys k).eraseIdx j)) (upR v k ((uR v k).eraseIdx j)) F ∧ KL h h' ∧ (ys k)[j]? = some a ∧ ((CnAt h') a (uR v k)[j])) := by
  have ha := hR.2.1.R hk
  have hl := ha.len
  have hj' : j < (xs k).length := by rw [← hx, hl]; exact hj
  have hj2 : j < (ys k).length := by rw [hl]; exact hj
  refine WP_post (rs_remove hR.1 (lt_R hk) hj') ?_
  rintro r h' ⟨rfl, g1, g2, -⟩
  have e : (ys k)[j] = (xs k)[j] := by simp only [hx]
  have e2 : (ys k)[j]? = some (xs k)[j] := by rw [← e, List.getElem?_eq_getElem hj2]
  have hc := hR.2.1.ko g2.ko
  refine ⟨_, rfl, ⟨g1, hc.upR hk ((hc.R hk).erase j), ?_, ?_⟩, g2, e2, ?_⟩
  · by_cases hz : isC k
    · exact (hR.2.2.1.er hz e2).1
    · exact hR.2.2.1.nC hz
  · rw [hx]; exact RX.agr hR.2.2.2
  · rw [← e]
    exact (hc.R hk).get j hj2 hj
theorem rx_addR {gc : Nat → Nat} {d : Nat} {h : AH} {A : Nat → Nat} {I : Nat → Int32} {xs ys : Nat → List Nat} {v : Mu} {F : Nat} {k a : Nat} {x : Con} (hR : RX gc h A I xs ys v F) (hk : isR k) (hx : ys k = xs k) (hl : (uR v k).length ≤ (if k = 1 then 449 else 65)) (ha : (CnAt h) a x) (hf : isC k → free ys a) : WP gc (d + 6) 23 [.ref (A (40 + k)), .ref a] h (fun r h' => r = some (.int 1) ∧ RX gc h' A I (va_up xs k (xs k ++ [a])) (va_up ys k (ys k ++ [a])) (upR v k (uR v k ++ [x])) F ∧ KL h h') := by
  obtain ⟨ws, hw⟩ := ha.tag
  refine WP_post (rs_add hR.1 (lt_R hk) (by rw [hR.lenR hk hx]; exact hl) (by omega) (by omega) hw rfl) ?_
  rintro r h' ⟨rfl, g1, g2, -⟩
  have hc := hR.2.1.ko g2.ko
  refine ⟨rfl, ⟨g1, hc.upR hk ((hc.R hk).one (ha.ko g2.ko)), ?_, ?_⟩, g2⟩
  · by_cases hz : isC k
    · exact hR.2.2.1.app hz (hf hz)
    · exact hR.2.2.1.nC hz
  · rw [hx]; exact RX.agr hR.2.2.2
theorem RX.lenD {gc : Nat → Nat} {h : AH} {A : Nat → Nat} {I : Nat → Int32} {xs ys : Nat → List Nat} {v : Mu} {F : Nat} {k : Nat} (hR : RX gc h A I xs ys v F) (hk : isD k) (hx : ys k = xs k) : (xs k).length = (uD v k).length := by
  rw [← hx]
  exact (hR.2.1.D hk).len
theorem rx_sizeD {gc : Nat → Nat} {d : Nat} {h : AH} {A : Nat → Nat} {I : Nat → Int32} {xs ys : Nat → List Nat} {v : Mu} {F : Nat} {k : Nat} (hR : RX gc h A I xs ys v F) (hk : isD k) (hx : ys k = xs k) : WP gc (d + 1) 17 [.ref (A (40 + k))] h (fun r h' => r = some (.int (nI (uD v k).length)) ∧ h' = h) := by
  rw [← hR.lenD hk hx]
  exact rs_size hR.1 (lt_D hk)
theorem rx_getD {gc : Nat → Nat} {d : Nat} {h : AH} {A : Nat → Nat} {I : Nat → Int32} {xs ys : Nat → List Nat} {v : Mu} {F : Nat} {k j : Nat} (hR : RX gc h A I xs ys v F) (hk : isD k) (hx : ys k = xs k) (hj : j < (uD v k).length) : WP gc (d + 3) 18 [.ref (A (40 + k)), .int (nI j)] h (fun r h' => ∃ a, r = some (.ref a) ∧ h' = h ∧ (ys k)[j]? = some a ∧ ((DdAt h) a (uD v k)[j])) := by
  have ha := hR.2.1.D hk
  have hl := ha.len
  have hj' : j < (xs k).length := by rw [← hx, hl]; exact hj
  have hj2 : j < (ys k).length := by rw [hl]; exact hj
  refine WP_post (rs_get hR.1 (lt_D hk) hj') ?_
  rintro r h' ⟨rfl, rfl⟩
  have e : (ys k)[j] = (xs k)[j] := by simp only [hx]
  refine ⟨_, rfl, rfl, ?_, ?_⟩
  · rw [← e, List.getElem?_eq_getElem hj2]
  · rw [← e]
    exact ha.get j hj2 hj
theorem rx_clrD {gc : Nat → Nat} {d : Nat} {h : AH} {A : Nat → Nat} {I : Nat → Int32} {xs ys : Nat → List Nat} {v : Mu} {F : Nat} {k : Nat} (hR : RX gc h A I xs ys v F) (hk : isD k) : WP gc (d + 1) 38 [.ref (A (40 + k))] h (fun r h' => r = none ∧ RX gc h' A I (va_up xs k []) (va_up ys k []) (upD v k []) F ∧ KL h h') := by
  refine WP_post (rs_clear hR.1 (lt_D hk)) ?_
  rintro r h' ⟨rfl, g1, g2, -⟩
  exact ⟨rfl, ⟨g1, (hR.2.1.ko g2.ko).upD hk trivial, hR.2.2.1.clr, RX.agr hR.2.2.2⟩, g2⟩
theorem rx_rmD {gc : Nat → Nat} {d : Nat} {h : AH} {A : Nat → Nat} {I : Nat → Int32} {xs ys : Nat → List Nat} {v : Mu} {F : Nat} {k j : Nat} (hR : RX gc h A I xs ys v F) (hk : isD k) (hx : ys k = xs k) (hj : j < (uD v k).length) : WP gc (d + 3) 32 [.ref (A (40 + k)), .int (nI j)] h (fun r h' => ∃ a, r = some (.ref a) ∧ RX gc h' A I (va_up xs k ((xs k).eraseIdx j)) (va_up ys k ((ys k).eraseIdx j)) (upD v k ((uD v k).eraseIdx j)) F ∧ KL h h' ∧ (ys k)[j]? = some a ∧ ((DdAt h') a (uD v k)[j])) := by
  have ha := hR.2.1.D hk
  have hl := ha.len
  have hj' : j < (xs k).length := by rw [← hx, hl]; exact hj
  have hj2 : j < (ys k).length := by rw [hl]; exact hj
  refine WP_post (rs_remove hR.1 (lt_D hk) hj') ?_
  rintro r h' ⟨rfl, g1, g2, -⟩
  have e : (ys k)[j] = (xs k)[j] := by simp only [hx]
  have e2 : (ys k)[j]? = some (xs k)[j] := by rw [← e, List.getElem?_eq_getElem hj2]
  have hc := hR.2.1.ko g2.ko
  refine ⟨_, rfl, ⟨g1, hc.upD hk ((hc.D hk).erase j), ?_, ?_⟩, g2, e2, ?_⟩
  · by_cases hz : isC k
    · exact (hR.2.2.1.er hz e2).1
    · exact hR.2.2.1.nC hz
  · rw [hx]; exact RX.agr hR.2.2.2
  · rw [← e]
    exact (hc.D hk).get j hj2 hj
theorem rx_addD {gc : Nat → Nat} {d : Nat} {h : AH} {A : Nat → Nat} {I : Nat → Int32} {xs ys : Nat → List Nat} {v : Mu} {F : Nat} {k a : Nat} {x : Ded} (hR : RX gc h A I xs ys v F) (hk : isD k) (hx : ys k = xs k) (hl : (uD v k).length ≤ (if k = 1 then 449 else 65)) (ha : (DdAt h) a x) (hf : isC k → free ys a) : WP gc (d + 6) 23 [.ref (A (40 + k)), .ref a] h (fun r h' => r = some (.int 1) ∧ RX gc h' A I (va_up xs k (xs k ++ [a])) (va_up ys k (ys k ++ [a])) (upD v k (uD v k ++ [x])) F ∧ KL h h') := by
  obtain ⟨ws, hw⟩ := ha.tag
  refine WP_post (rs_add hR.1 (lt_D hk) (by rw [hR.lenD hk hx]; exact hl) (by omega) (by omega) hw rfl) ?_
  rintro r h' ⟨rfl, g1, g2, -⟩
  have hc := hR.2.1.ko g2.ko
  refine ⟨rfl, ⟨g1, hc.upD hk ((hc.D hk).one (ha.ko g2.ko)), ?_, ?_⟩, g2⟩
  · by_cases hz : isC k
    · exact hR.2.2.1.app hz (hf hz)
    · exact hR.2.2.1.nC hz
  · rw [hx]; exact RX.agr hR.2.2.2
theorem rx_insC {gc : Nat → Nat} {d : Nat} {h : AH} {A : Nat → Nat} {I : Nat → Int32} {xs ys : Nat → List Nat} {v : Mu} {F : Nat} {k a j : Nat} {x : Rec} (hR : RX gc h A I xs ys v F) (hk : isC k) (hx : ys k = xs k) (hj : j ≤ (uC v k).length) (hl : (uC v k).length ≤ (if k = 1 then 449 else 65)) (ha : CpAt k h a x) (hf : free ys a) : WP gc (d + 5) 52 [.ref (A (40 + k)), .int (nI j), .ref a] h (fun r h' => r = none ∧ RX gc h' A I (va_up xs k (ins (xs k) j a)) (va_up ys k (ins (ys k) j a)) (upC v k (insG (uC v k) j x)) F ∧ KL h h') := by
  obtain ⟨ws, hw⟩ := ha.tag
  refine WP_post (rs_insert hR.1 (lt_C hk) (by rw [hR.lenC hk hx]; exact hl) (by rw [hR.lenC hk hx]; exact hj) (by omega) (by omega) hw rfl) ?_
  rintro r h' ⟨rfl, g1, g2, -⟩
  have hc := hR.2.1.ko g2.ko
  refine ⟨rfl, ⟨g1, hc.upC hk ((hc.C hk).ins (ha.ko g2.ko)), hR.2.2.1.ins hk hf, ?_⟩, g2⟩
  rw [hx]; exact RX.agr hR.2.2.2
theorem RX.lst {gc : Nat → Nat} {h : AH} {A : Nat → Nat} {I : Nat → Int32} {xs ys : Nat → List Nat} {v : Mu} {F : Nat} {k : Nat} (hR : RX gc h A I xs ys v F) (hk : k < 22) : ∃ vs, at_ h (A (40 + k)) 10 vs := by
  obtain ⟨e, cap, ⟨m, h1⟩, -⟩ := hR.1.lst hk
  exact ⟨_, h1⟩
/-- a copy's numbers are written -/
theorem RS.wr4 {gc : Nat → Nat} {h : AH} {A : Nat → Nat} {I : Nat → Int32} {xs : Nat → List Nat} {nc ns a : Nat} {vs vs' : List Value} (hR : RS gc h A I xs nc ns) (ha : at_ h a 4 vs) : RS gc (ah_set h a (4, vs')) A I xs nc ns := by
  obtain ⟨hA, hf, hF, le, lc, hL, b1, b2⟩ := hR
  have k : ∀ b t ws, t ≠ 4 → at_ h b t ws → at_ (ah_set h a (4, vs')) b t ws := fun b t ws z hb => at_n hb (at_ne hb ha z)
  refine ⟨hA, hf.set ha (by decide), ?_, le, lc, ⟨fun i hi => ?_, hL.2⟩, b1, b2⟩
  · obtain ⟨h1, h2, h3, h4, h5, h6, h7, h8⟩ := hF
    exact ⟨k _ _ _ (by decide) h1, k _ _ _ (by decide) h2, k _ _ _ (by decide) h3, k _ _ _ (by decide) h4, k _ _ _ (by decide) h5, fun e he => k _ _ _ (by decide) (h6 e he), fun q hq => k _ _ _ (by decide) (h7 q hq), fun c hc => k _ _ _ (by decide) (h8 c hc)⟩
  · obtain ⟨⟨⟨m, g1⟩, g2, g3, g4, g5⟩, g6⟩ := hL.1 i hi
    refine ⟨⟨⟨m, k _ _ _ (by decide) g1⟩, g2, g3, ?_, fun x hx => ?_⟩, g6⟩
    · rcases g4 with ⟨z1, z2, z3⟩ | ⟨z1, z3⟩
      · exact Or.inl ⟨z1, z2, k _ _ _ (by decide) z3⟩
      · exact Or.inr ⟨z1, k _ _ _ (by decide) z3⟩
    · obtain ⟨t, ws, w1, w2⟩ := g5 x hx
      by_cases hz : x = a
      · subst hz
        exact ⟨4, vs', at_s, rfl⟩
      · exact ⟨t, ws, at_n w1 hz, w2⟩
theorem CpAt.oth {h : AH} {a b k : Nat} {vs vs' : List Value} {r : Rec} (ha : at_ h a 4 vs) (hb : b ≠ a) (hc : CpAt k h b r) : CpAt k (ah_set h a (4, vs')) b r := by
  obtain ⟨m, D, h1, h2, h3⟩ := hc
  exact ⟨m, D, at_n h1 hb, h2, at_n h3 (at_ne h3 ha (by decide))⟩
theorem DdAt.wr4 {h : AH} {a b : Nat} {vs vs' : List Value} {r : Ded} (ha : at_ h a 4 vs) (hc : DdAt h b r) : DdAt (ah_set h a (4, vs')) b r := by
  unfold DdAt at *
  split at hc
  · exact at_n hc (at_ne hc ha (by decide))
  · obtain ⟨m, h1, h2⟩ := hc
    exact ⟨m, at_n h1 (at_ne h1 ha (by decide)), at_n h2 (at_ne h2 ha (by decide))⟩
theorem RX.wrH {gc : Nat → Nat} {h : AH} {A : Nat → Nat} {I : Nat → Int32} {xs ys : Nat → List Nat} {v : Mu} {F : Nat} {k j a : Nat} {x : Rec} {vs vs' : List Value} (hR : RX gc h A I xs ys v F) (hk : isC k) (hj : (ys k)[j]? = some a) (ha : at_ h a 4 vs) (hx : CpAt k (ah_set h a (4, vs')) a x) : RX gc (ah_set h a (4, vs')) A I xs ys (upC v k ((uC v k).set j x)) F ∧ KC h (ah_set h a (4, vs')) := by
  obtain ⟨h1, ⟨c1, c2, c3, c4⟩, h3, h4⟩ := hR
  refine ⟨⟨h1.wr4 ha, ⟨fun l hl => (c1 l hl).mono (fun b r _ z => at_n z (at_ne z ha (by decide))), fun l hl => ?_, fun l hl => (c3 l hl).mono (fun b r _ z => at_n z (at_ne z ha (by decide))), fun l hl => (c4 l hl).mono (fun b r _ z => z.wr4 ha)⟩, h3, h4⟩, KC.set ha (by decide)⟩
  show All2 _ (ys l) (va_up v.2.1 k ((uC v k).set j x) l)
  by_cases hz : l = k
  · subst hz
    rw [va_up_self]
    refine (c2 l hl).set j x (fun i b r hb hi hr => hr.oth ha ?_) (fun b hb => ?_)
    rotate_left
    · rintro rfl
      have hn := h3.1 l hl
      have q1 := List.getElem?_eq_some_iff.mp hj
      have q2 := List.getElem?_eq_some_iff.mp hb
      obtain ⟨w1, w2⟩ := q1
      obtain ⟨w3, w4⟩ := q2
      exact hi ((List.getElem_inj hn).mp (w4.trans w2.symm))
    · rw [hj] at hb
      rw [← Option.some.inj hb]
      exact hx
  · rw [va_up_ne _ _ hz]
    refine (c2 l hl).mono (fun b r hb hr => hr.oth ha ?_)
    rintro rfl
    exact hz (h3.2 l k b hl hk hb (List.mem_of_getElem? hj))
theorem RX.wrF {gc : Nat → Nat} {h : AH} {A : Nat → Nat} {I : Nat → Int32} {xs ys : Nat → List Nat} {v : Mu} {F : Nat} {a : Nat} {vs vs' : List Value} (hR : RX gc h A I xs ys v F) (hf : free ys a) (ha : at_ h a 4 vs) : RX gc (ah_set h a (4, vs')) A I xs ys v F ∧ KC h (ah_set h a (4, vs')) := by
  obtain ⟨h1, ⟨c1, c2, c3, c4⟩, h3, h4⟩ := hR
  refine ⟨⟨h1.wr4 ha, ⟨fun l hl => (c1 l hl).mono (fun b r _ z => at_n z (at_ne z ha (by decide))), fun l hl => ?_, fun l hl => (c3 l hl).mono (fun b r _ z => at_n z (at_ne z ha (by decide))), fun l hl => (c4 l hl).mono (fun b r _ z => z.wr4 ha)⟩, h3, h4⟩, KC.set ha (by decide)⟩
  refine (c2 l hl).mono (fun b r hb hr => hr.oth ha ?_)
  rintro rfl
  exact hf l hl hb
/-- an object of the lists is never one of the top's -/
theorem RX.freeN {gc : Nat → Nat} {h : AH} {A : Nat → Nat} {I : Nat → Int32} {xs ys : Nat → List Nat} {v : Mu} {F : Nat} (hR : RX gc h A I xs ys v F) : free ys h.1 := fun l hl hm => by
  obtain ⟨j, hj⟩ := List.getElem?_of_mem hm
  have ha := hR.2.1.C hl
  obtain ⟨w1, w2⟩ := List.getElem?_eq_some_iff.mp hj
  have := ha.get j w1 (by rw [← ha.len]; exact w1)
  rw [w2] at this
  obtain ⟨ws, hw⟩ := this.tag
  exact absurd (hR.1.2.1.lt hw (by decide)) (Nat.lt_irrefl _)
end
section
/-! bindings, consumers -/
theorem k_newB {gc : Nat → Nat} {d : Nat} {h : AH} {x1 x2 x3 : Int32} : WP gc (d + 1) 22 [.ref h.1, .int x1, .int x2, .int x3] (ah_new h (1, dfl 1)) (fun r h' => r = none ∧ h' = ah_new h (1, [.int x1, .int x2, .int x3])) := by
  refine M22 ⟨_, at_new, Nat.le_of_ble_eq_true rfl, trivial, ?_⟩
  rintro h2 rfl
  refine ⟨_, at_s, Nat.le_of_ble_eq_true rfl, trivial, ?_⟩
  rintro h3 rfl
  refine ⟨_, at_s, Nat.le_of_ble_eq_true rfl, trivial, ?_⟩
  rintro h4 rfl
  refine ⟨rfl, ?_⟩
  rw [set_set, set_set]
  exact set_new rfl
theorem k_newM {gc : Nat → Nat} {d : Nat} {h : AH} {x1 x2 x3 x4 : Int32} (h4 : x4 = 0 ∨ x4 = 1) : WP gc (d + 1) 42 [.ref h.1, .int x1, .int x2, .int x3, .int x4] (ah_new h (7, dfl 7)) (fun r h' => r = none ∧ h' = ah_new h (7, [.int x1, .int x2, .int x3, .int x4])) := by
  refine M42 ⟨_, at_new, Nat.le_of_ble_eq_true rfl, trivial, ?_⟩
  rintro h2 rfl
  refine ⟨_, at_s, Nat.le_of_ble_eq_true rfl, trivial, ?_⟩
  rintro h3 rfl
  refine ⟨_, at_s, Nat.le_of_ble_eq_true rfl, trivial, ?_⟩
  rintro h5 rfl
  refine ⟨_, at_s, Nat.le_of_ble_eq_true rfl, h4, ?_⟩
  rintro h6 rfl
  refine ⟨rfl, ?_⟩
  rw [set_set, set_set, set_set]
  exact set_new rfl
theorem k_newDn {gc : Nat → Nat} {d : Nat} {h : AH} {x1 x3 : Int32} : WP gc (d + 1) 43 [.ref h.1, .int x1, .null, .int x3] (ah_new h (5, dfl 5)) (fun r h' => r = none ∧ h' = ah_new h (5, [.int x1, .null, .int x3])) := by
  refine M43n ⟨_, at_new, Nat.le_of_ble_eq_true rfl, trivial, ?_⟩
  rintro h2 rfl
  refine ⟨_, at_s, Nat.le_of_ble_eq_true rfl, trivial, ?_⟩
  rintro h3 rfl
  refine ⟨_, at_s, Nat.le_of_ble_eq_true rfl, trivial, ?_⟩
  rintro h4 rfl
  refine ⟨rfl, ?_⟩
  rw [set_set, set_set]
  exact set_new rfl
theorem k_newD {gc : Nat → Nat} {d m : Nat} {h : AH} {x1 x3 : Int32} : WP gc (d + 1) 43 [.ref h.1, .int x1, .ref m, .int x3] (ah_new h (5, dfl 5)) (fun r h' => r = none ∧ h' = ah_new h (5, [.int x1, .ref m, .int x3])) := by
  refine M43 ⟨_, at_new, Nat.le_of_ble_eq_true rfl, trivial, ?_⟩
  rintro h2 rfl
  refine ⟨_, at_s, Nat.le_of_ble_eq_true rfl, trivial, ?_⟩
  rintro h3 rfl
  refine ⟨_, at_s, Nat.le_of_ble_eq_true rfl, trivial, ?_⟩
  rintro h4 rfl
  refine ⟨rfl, ?_⟩
  rw [set_set, set_set]
  exact set_new rfl
theorem k_newN {gc : Nat → Nat} {d : Nat} {h : AH} {x1 x2 : Int32} (h4 : x2 = 0 ∨ x2 = 1) : WP gc (d + 1) 59 [.ref h.1, .int x1, .int x2] (ah_new h (3, dfl 3)) (fun r h' => r = none ∧ h' = ah_new h (3, [.int x1, .int x2])) := by
  refine M59 ⟨_, at_new, Nat.le_of_ble_eq_true rfl, trivial, ?_⟩
  rintro h2 rfl
  refine ⟨_, at_s, Nat.le_of_ble_eq_true rfl, h4, ?_⟩
  rintro h3 rfl
  refine ⟨rfl, ?_⟩
  rw [set_set]
  exact set_new rfl
theorem k_newC {gc : Nat → Nat} {d m : Nat} {h : AH} {x2 x3 : Int32} : WP gc (d + 1) 50 [.ref h.1, .ref m, .int x2, .int x3] (ah_new h (4, dfl 4)) (fun r h' => r = none ∧ h' = ah_new h (4, [.ref m, .int x2, .int x3, .int 0, .int 0, .int (-1)])) := by
  refine M50 ⟨_, at_new, Nat.le_of_ble_eq_true rfl, Or.inl rfl, ?_⟩
  rintro h2 rfl
  refine ⟨_, at_s, Nat.le_of_ble_eq_true rfl, trivial, ?_⟩
  rintro h3 rfl
  refine ⟨_, at_s, Nat.le_of_ble_eq_true rfl, trivial, ?_⟩
  rintro h4 rfl
  refine ⟨_, at_s, Nat.le_of_ble_eq_true rfl, trivial, ?_⟩
  rintro h5 rfl
  refine ⟨_, at_s, Nat.le_of_ble_eq_true rfl, trivial, ?_⟩
  rintro h6 rfl
  refine ⟨_, at_s, Nat.le_of_ble_eq_true rfl, trivial, ?_⟩
  rintro h7 rfl
  refine ⟨rfl, ?_⟩
  rw [set_set, set_set, set_set, set_set, set_set]
  exact set_new rfl
/-- the first place that fits, or the length -/
def ix {α : Type} (p : α → Bool) : List α → Nat
  | [] => 0
  | y :: ys => if p y then 0 else ix p ys + 1
def fo {α : Type} (p : α → Bool) (ys : List α) (i : Nat) : Int32 := if ix p ys < ys.length then nI (i + ix p ys) else -1
theorem fo_cons {α : Type} {p : α → Bool} {y : α} {ys : List α} {i : Nat} : fo p (y :: ys) i = if p y then nI i else fo p ys (i + 1) := by
  unfold fo
  by_cases hp : p y = true
  · rw [show ix p (y :: ys) = 0 from if_pos hp, List.length_cons, if_pos (by omega), if_pos hp]
    rfl
  · rw [show ix p (y :: ys) = ix p ys + 1 from if_neg hp, if_neg hp]
    by_cases hl : ix p ys < ys.length
    · rw [List.length_cons, if_pos (by omega), if_pos hl, show i + (ix p ys + 1) = i + 1 + ix p ys by omega]
    · rw [List.length_cons, if_neg (by omega), if_neg hl]
theorem nI_m1 {n : Nat} (h : n < 2 ^ 31) : ¬ nI n = -1 := fun z => by
  have := nI_pos h
  rw [z] at this
  exact this (by decide)
theorem fo_c {α : Type} {p : α → Bool} {ys : List α} (hl : ys.length < 1000) : (fo p ys 0 = -1 ∧ ¬ ix p ys < ys.length) ∨ (∃ h : ix p ys < ys.length, fo p ys 0 = nI (ix p ys) ∧ ¬ fo p ys 0 = -1) := by
  unfold fo
  by_cases h : ix p ys < ys.length
  · right
    rw [if_pos h, Nat.zero_add]
    exact ⟨h, rfl, nI_m1 (by omega)⟩
  · left
    rw [if_neg h]
    exact ⟨rfl, h⟩
def bEq (x1 x2 x3 : Int32) (b : Bnd) : Bool := decide (b.1 = x1 ∧ b.2.1 = x2 ∧ b.2.2 = x3)
theorem findB_loop {gc : Nat → Nat} {d : Nat} {h : AH} {A : Nat → Nat} {I : Nat → Int32} {xs ys : Nat → List Nat} {v : Mu} {F : Nat} {q : PT} {x1 x2 x3 : Int32} (hR : RX gc h A I xs ys v F) (hl : (uB v 0).length ≤ 64) : ∀ n i v5, i + n = (uB v 0).length → q (some (.int (fo (bEq x1 x2 x3) ((uB v 0).drop i) i))) h → TT gc (d + 3) 16 q 3 [.ref (A 0), .int x1, .int x2, .int x3, .int (nI i), v5] [] h := by
  have hF := hR.rf
  have hb : isB 0 := rfl
  intro n
  induction n with
  | zero =>
    intro i v5 hi hq
    refine B16_3 ⟨_, _, hF.2.1, rfl, hR.lst (k := 0) (by decide), _, rx_sizeB hR hb (hR.xB hb), ?_⟩
    rintro r h' ⟨rfl, rfl⟩
    refine ⟨_, rfl, fun _ => B16_65 ?_, fun z => absurd (nI_le (by omega) (by omega)) z⟩
    rw [List.drop_eq_nil_of_le (by omega)] at hq
    exact hq
  | succ n ih =>
    intro i v5 hi hq
    have hil : i < (uB v 0).length := by omega
    refine B16_3 ⟨_, _, hF.2.1, rfl, hR.lst (k := 0) (by decide), _, rx_sizeB hR hb (hR.xB hb), ?_⟩
    rintro r h' ⟨rfl, rfl⟩
    refine ⟨_, rfl, fun z => absurd z (nI_ge hil (by omega)), fun _ => ⟨_, _, hF.2.1, rfl, hR.lst (k := 0) (by decide), _, rx_getB hR hb (hR.xB hb) hil, ?_⟩⟩
    rintro r h2 ⟨a, rfl, rfl, -, ha⟩
    rw [List.drop_eq_getElem_cons hil, fo_cons] at hq
    have nx : bEq x1 x2 x3 (uB v 0)[i] = false → TT gc (d + 3) 16 q 59 [.ref (A 0), .int x1, .int x2, .int x3, .int (nI i), .ref a] [] h2 := fun hz => by
      rw [hz] at hq
      refine B16_59 ?_
      rw [nI_1]
      exact ih (i + 1) _ (by omega) hq
    refine ⟨a, rfl, _, ha, _, _, ha, rfl, fun z => nx ?_, fun z1 => ⟨_, _, ha, rfl, fun z => nx ?_, fun z2 => ⟨_, _, ha, rfl, fun z => nx ?_, fun z3 => ?_⟩⟩⟩
    · exact decide_eq_false (fun w => z w.1)
    · exact decide_eq_false (fun w => z w.2.1)
    · exact decide_eq_false (fun w => z w.2.2)
    · rw [show bEq x1 x2 x3 (uB v 0)[i] = true from decide_eq_true ⟨z1, z2, z3⟩] at hq
      exact hq
theorem k_findB {gc : Nat → Nat} {d : Nat} {h : AH} {A : Nat → Nat} {I : Nat → Int32} {xs ys : Nat → List Nat} {v : Mu} {F : Nat} {x1 x2 x3 : Int32} (hR : RX gc h A I xs ys v F) (hl : (uB v 0).length ≤ 64) : WP gc (d + 4) 16 [.ref (A 0), .int x1, .int x2, .int x3] h (fun r h' => r = some (.int (fo (bEq x1 x2 x3) (uB v 0) 0)) ∧ h' = h) :=
  M16 (findB_loop hR hl (uB v 0).length 0 _ (by omega) ⟨rfl, rfl⟩)
def opBd (I : Nat → Int32) (v : Mu) (x1 x2 x3 : Int32) : Int32 × Mu :=
  if isEx I x1 && isQu I x2 && isPat x3 then
    (if ix (bEq x1 x2 x3) (uB v 0) < (uB v 0).length then (-3, v) else if (uB v 0).length < 24 then (0, upB v 0 (uB v 0 ++ [(x1, x2, x3)])) else (-2, v))
  else (-1, v)
theorem and3 {a b c : Bool} (h : (a && b && c) = false → False) : a = true ∧ b = true ∧ c = true := by
  cases a <;> cases b <;> cases c <;> first | exact ⟨rfl, rfl, rfl⟩ | exact (h rfl).elim
theorem k_bind {gc : Nat → Nat} {d : Nat} {h : AH} {A : Nat → Nat} {I : Nat → Int32} {v : Mu} {F : Nat} {x1 x2 x3 : Int32} (hR : RC gc h A I v (F + 1)) (hl : (uB v 0).length ≤ 24) : WP gc (d + 7) 10 [.ref (A 0), .int x1, .int x2, .int x3] h (fun r h' => r = some (.int (opBd I v x1 x2 x3).1) ∧ RC gc h' A I (opBd I v x1 x2 x3).2 F ∧ KC h h') := by
  obtain ⟨xs, hX⟩ := hR
  have hR : RC gc h A I v (F + 1) := ⟨xs, hX⟩
  have hF := hX.rf
  have bad : (isEx I x1 && isQu I x2 && isPat x3) = false → (some (Value.int (-1)) = some (Value.int (opBd I v x1 x2 x3).1) ∧ RC gc h A I (opBd I v x1 x2 x3).2 F ∧ KC h h) := fun hb => by
    unfold opBd
    rw [hb, if_neg (by decide)]
    exact ⟨rfl, hR.le (by omega), KC.refl⟩
  refine M10 ⟨⟨_, hF.2.1⟩, _, k_isE hF, ?_⟩
  rintro r h' ⟨rfl, rfl⟩
  refine ⟨_, rfl, fun z => B10_23 (bad ?_), fun z1 => ⟨⟨_, hF.2.1⟩, _, k_isQ hF, ?_⟩⟩
  · rw [b2i_z.mp z]; rfl
  rintro r h' ⟨rfl, rfl⟩
  refine ⟨_, rfl, fun z => B10_23 (bad ?_), fun z2 => ⟨_, k_isPattern, ?_⟩⟩
  · rw [b2i_z.mp z, Bool.and_false]; rfl
  rintro r h' ⟨rfl, rfl⟩
  refine ⟨_, rfl, fun z3 => B10_25 ⟨⟨_, hF.2.1⟩, _, k_findB hX (by omega), ?_⟩, fun z => B10_23 (bad ?_)⟩
  rotate_left
  · rw [b2i_z.mp z, Bool.and_false]
  rintro r h' ⟨rfl, rfl⟩
  have ho : opBd I v x1 x2 x3 = if ix (bEq x1 x2 x3) (uB v 0) < (uB v 0).length then (-3, v) else if (uB v 0).length < 24 then (0, upB v 0 (uB v 0 ++ [(x1, x2, x3)])) else (-2, v) := by
    unfold opBd
    rw [b2i_nz z1, b2i_nz z2, b2i_nz z3]
    rfl
  rcases fo_c (p := bEq x1 x2 x3) (ys := uB v 0) (by omega) with ⟨w1, w2⟩ | ⟨w1, w2, w3⟩
  · rw [if_neg w2] at ho
    refine ⟨_, rfl, fun _ => B10_39 ⟨_, _, hF.2.1, rfl, hX.lst (k := 0) (by decide), _, rx_sizeB hX rfl (hX.xB rfl), ?_⟩, fun z => absurd w1 z⟩
    rintro r h' ⟨rfl, rfl⟩
    refine ⟨_, rfl, pk_lt (uB v 0).length 24 (fun hn => ?_) (fun hn => ?_)⟩
    · rw [if_pos hn] at ho
      obtain ⟨g1, g2, g3, g4, g5⟩ := hX.new (t := 1) (vs := [.int x1, .int x2, .int x3]) (Nat.le_of_ble_eq_true rfl)
      refine B10_54 ⟨_, _, hF.2.1, rfl, g2, Nat.le_trans (by decide) g3, ?_⟩
      rintro _ _ rfl rfl
      refine ⟨_, k_newB, ?_⟩
      rintro r h' ⟨rfl, rfl⟩
      refine ⟨rfl, g1.lst (k := 0) (by decide), _, rx_addB (x := (x1, x2, x3)) g1 rfl (g1.xB rfl) (by rw [if_neg (by decide)]; omega) at_new (fun z => absurd z (by unfold isC; omega)), ?_⟩
      rintro r h' ⟨rfl, q1, q2⟩
      rw [ho]
      have q1' := q1
      rw [hX.xB rfl] at q1'
      exact ⟨_, rfl, rfl, ⟨_, q1'⟩, g4.trans q2.kc⟩
    · rw [if_neg (by omega)] at ho
      rw [ho]
      exact ⟨rfl, hR.le (by omega), KC.refl⟩
  · rw [if_pos w1] at ho
    refine ⟨_, rfl, fun z => absurd z w3, fun _ => ?_⟩
    rw [ho]
    exact ⟨rfl, hR.le (by omega), KC.refl⟩
def opUb (I : Nat → Int32) (v : Mu) (x1 x2 x3 : Int32) : Int32 × Mu :=
  if isEx I x1 && isQu I x2 && isPat x3 then
    (if ix (bEq x1 x2 x3) (uB v 0) < (uB v 0).length then (0, upB v 0 ((uB v 0).eraseIdx (ix (bEq x1 x2 x3) (uB v 0)))) else (-3, v))
  else (-1, v)
theorem k_unbind {gc : Nat → Nat} {d : Nat} {h : AH} {A : Nat → Nat} {I : Nat → Int32} {v : Mu} {F : Nat} {x1 x2 x3 : Int32} (hR : RC gc h A I v F) (hl : (uB v 0).length ≤ 24) : WP gc (d + 5) 31 [.ref (A 0), .int x1, .int x2, .int x3] h (fun r h' => r = some (.int (opUb I v x1 x2 x3).1) ∧ RC gc h' A I (opUb I v x1 x2 x3).2 F ∧ KC h h') := by
  obtain ⟨xs, hX⟩ := hR
  have hR : RC gc h A I v F := ⟨xs, hX⟩
  have hF := hX.rf
  have bad : (isEx I x1 && isQu I x2 && isPat x3) = false → (some (Value.int (-1)) = some (Value.int (opUb I v x1 x2 x3).1) ∧ RC gc h A I (opUb I v x1 x2 x3).2 F ∧ KC h h) := fun hb => by
    unfold opUb
    rw [hb, if_neg (by decide)]
    exact ⟨rfl, hR, KC.refl⟩
  refine M31 ⟨⟨_, hF.2.1⟩, _, k_isE hF, ?_⟩
  rintro r h' ⟨rfl, rfl⟩
  refine ⟨_, rfl, fun z => B31_23 (bad ?_), fun z1 => ⟨⟨_, hF.2.1⟩, _, k_isQ hF, ?_⟩⟩
  · rw [b2i_z.mp z]; rfl
  rintro r h' ⟨rfl, rfl⟩
  refine ⟨_, rfl, fun z => B31_23 (bad ?_), fun z2 => ⟨_, k_isPattern, ?_⟩⟩
  · rw [b2i_z.mp z, Bool.and_false]; rfl
  rintro r h' ⟨rfl, rfl⟩
  refine ⟨_, rfl, fun z3 => B31_25 ⟨⟨_, hF.2.1⟩, _, k_findB hX (by omega), ?_⟩, fun z => B31_23 (bad ?_)⟩
  rotate_left
  · rw [b2i_z.mp z, Bool.and_false]
  rintro r h' ⟨rfl, rfl⟩
  have ho : opUb I v x1 x2 x3 = if ix (bEq x1 x2 x3) (uB v 0) < (uB v 0).length then (0, upB v 0 ((uB v 0).eraseIdx (ix (bEq x1 x2 x3) (uB v 0)))) else (-3, v) := by
    unfold opUb
    rw [b2i_nz z1, b2i_nz z2, b2i_nz z3]
    rfl
  rcases fo_c (p := bEq x1 x2 x3) (ys := uB v 0) (by omega) with ⟨w1, w2⟩ | ⟨w1, w2, w3⟩
  · rw [if_neg w2] at ho
    refine ⟨_, rfl, fun z => absurd w1 z, fun _ => ?_⟩
    rw [ho]
    exact ⟨rfl, hR, KC.refl⟩
  · rw [if_pos w1] at ho
    rw [ho, w2]
    refine ⟨_, rfl, fun _ => B31_43 ⟨_, _, hF.2.1, rfl, hX.lst (k := 0) (by decide), _, rx_rmB hX rfl (hX.xB rfl) w1, ?_⟩, fun z => absurd (w2.trans z) w3⟩
    rintro r h' ⟨a, rfl, q1, q2, -⟩
    exact ⟨_, rfl, rfl, ⟨_, q1⟩, q2.kc⟩
end
section
/-! consumers, deliver -/
theorem RF.quO {gc : Nat → Nat} {h : AH} {A : Nat → Nat} {I : Nat → Int32} (hF : RF gc h A I) {q : Nat} (hq : q < 6) : at_ h (A (20 + q)) 8 [.int (I (200 + 10 * q)), .int (I (201 + 10 * q)), .int (I (202 + 10 * q)), .int (I (203 + 10 * q)), .ref (A (40 + (2 + q))), .ref (A (40 + (8 + q)))] := by
  have := hF.2.2.2.2.2.2.1 q hq
  rw [show 40 + (2 + q) = 42 + q by omega, show 40 + (8 + q) = 48 + q by omega]
  exact this
theorem RF.chO {gc : Nat → Nat} {h : AH} {A : Nat → Nat} {I : Nat → Int32} (hF : RF gc h A I) {c : Nat} (hc : c < 4) : at_ h (A (30 + c)) 2 [.int (I (300 + 10 * c)), .int (I (301 + 10 * c)), .int (I (302 + 10 * c)), .ref (A (40 + (14 + c))), .ref (A (40 + (18 + c)))] := by
  have := hF.2.2.2.2.2.2.2 c hc
  rw [show 40 + (14 + c) = 54 + c by omega, show 40 + (18 + c) = 58 + c by omega]
  exact this
theorem RX.wrCh {gc : Nat → Nat} {h : AH} {A : Nat → Nat} {I : Nat → Int32} {U : Nat → Int32} {xs ys : Nat → List Nat} {v : Mu} {F : Nat} {e : Nat} {n0 n1 n2 : Int32} (hR : RX gc h A I xs ys v F) (he : e < 4) (hI : ∀ j, ¬ (300 + 10 * e ≤ j ∧ j ≤ 302 + 10 * e) → U j = I j) (e0 : U (300 + 10 * e) = n0) (e1 : U (301 + 10 * e) = n1) (e2 : U (302 + 10 * e) = n2) : RX gc (ah_set h (A (30 + e)) (2, [.int n0, .int n1, .int n2, .ref (A (40 + (14 + e))), .ref (A (40 + (18 + e)))])) A U xs ys v F ∧ KC h (ah_set h (A (30 + e)) (2, [.int n0, .int n1, .int n2, .ref (A (40 + (14 + e))), .ref (A (40 + (18 + e)))])) ∧ KO h (ah_set h (A (30 + e)) (2, [.int n0, .int n1, .int n2, .ref (A (40 + (14 + e))), .ref (A (40 + (18 + e)))])) := by
  rw [show 40 + (14 + e) = 54 + e by omega, show 40 + (18 + e) = 58 + e by omega]
  exact hR.wrC he hI e0 e1 e2
theorem uB_s {v : Mu} {k : Nat} {l : List Bnd} : uB (upB v k l) k = l := va_up_self _ _ _
theorem uB_n {v : Mu} {k j : Nat} {l : List Bnd} (h : j ≠ k) : uB (upB v k l) j = uB v j := va_up_ne _ _ h
theorem uC_s {v : Mu} {k : Nat} {l : List Rec} : uC (upC v k l) k = l := va_up_self _ _ _
theorem uC_n {v : Mu} {k j : Nat} {l : List Rec} (h : j ≠ k) : uC (upC v k l) j = uC v j := va_up_ne _ _ h
theorem uR_s {v : Mu} {k : Nat} {l : List Con} : uR (upR v k l) k = l := va_up_self _ _ _
theorem uR_n {v : Mu} {k j : Nat} {l : List Con} (h : j ≠ k) : uR (upR v k l) j = uR v j := va_up_ne _ _ h
theorem uD_s {v : Mu} {k : Nat} {l : List Ded} : uD (upD v k l) k = l := va_up_self _ _ _
theorem uD_n {v : Mu} {k j : Nat} {l : List Ded} (h : j ≠ k) : uD (upD v k l) j = uD v j := va_up_ne _ _ h
theorem vu_vu {α : Type} {f : Nat → α} {k : Nat} {a b : α} : va_up (va_up f k a) k b = va_up f k b := by
  funext j
  by_cases hj : j = k
  · subst hj; rw [va_up_self, va_up_self]
  · rw [va_up_ne _ _ hj, va_up_ne _ _ hj, va_up_ne _ _ hj]
theorem upC_upC {v : Mu} {k : Nat} {a b : List Rec} : upC (upC v k a) k b = upC v k b := by
  unfold upC
  rw [vu_vu]
theorem upR_upR {v : Mu} {k : Nat} {a b : List Con} : upR (upR v k a) k b = upR v k b := by
  unfold upR
  rw [vu_vu]
def nEq (x : Int32) (b : Con) : Bool := decide (b.1 = x)
theorem isR_q {q : Nat} (h : q < 6) : isR (8 + q) := by unfold isR; omega
theorem isC_q {q : Nat} (h : q < 6) : isC (2 + q) := by unfold isC; omega
theorem isC_c {c : Nat} (h : c < 4) : isC (14 + c) := by unfold isC; omega
theorem isD_c {c : Nat} (h : c < 4) : isD (18 + c) := by unfold isD; omega
theorem isC_1 : isC 1 := by unfold isC; omega
theorem findN_loop {gc : Nat → Nat} {d : Nat} {h : AH} {A : Nat → Nat} {I : Nat → Int32} {xs ys : Nat → List Nat} {v : Mu} {F : Nat} {q : PT} {x : Int32} {e : Nat} (hR : RX gc h A I xs ys v F) (he : e < 6) (hl : (uR v (8 + e)).length ≤ 64) : ∀ n i, i + n = (uR v (8 + e)).length → q (some (.int (fo (nEq x) ((uR v (8 + e)).drop i) i))) h → TT gc (d + 3) 58 q 2 [.ref (A (20 + e)), .int x, .int (nI i)] [] h := by
  have hq := hR.rf.quO he
  have hb := isR_q he
  intro n
  induction n with
  | zero =>
    intro i hi hz
    refine B58_2 ⟨_, _, hq, rfl, hR.lst (lt_R hb), _, rx_sizeR hR hb (hR.xR hb), ?_⟩
    rintro r h' ⟨rfl, rfl⟩
    refine ⟨_, rfl, fun _ => B58_39 ?_, fun z => absurd (nI_le (by omega) (by omega)) z⟩
    rw [List.drop_eq_nil_of_le (by omega)] at hz
    exact hz
  | succ n ih =>
    intro i hi hz
    have hil : i < (uR v (8 + e)).length := by omega
    refine B58_2 ⟨_, _, hq, rfl, hR.lst (lt_R hb), _, rx_sizeR hR hb (hR.xR hb), ?_⟩
    rintro r h' ⟨rfl, rfl⟩
    refine ⟨_, rfl, fun z => absurd z (nI_ge hil (by omega)), fun _ => ⟨_, _, hq, rfl, hR.lst (lt_R hb), _, rx_getR hR hb (hR.xR hb) hil, ?_⟩⟩
    rintro r h2 ⟨a, rfl, rfl, -, ha⟩
    rw [List.drop_eq_getElem_cons hil, fo_cons] at hz
    refine ⟨a, rfl, _, ha, _, _, ha, rfl, fun z => B58_33 ?_, fun z => ?_⟩
    · rw [show nEq x (uR v (8 + e))[i] = false from decide_eq_false z] at hz
      rw [nI_1]
      exact ih (i + 1) (by omega) hz
    · rw [show nEq x (uR v (8 + e))[i] = true from decide_eq_true z] at hz
      exact hz
theorem k_findN {gc : Nat → Nat} {d : Nat} {h : AH} {A : Nat → Nat} {I : Nat → Int32} {xs ys : Nat → List Nat} {v : Mu} {F : Nat} {x : Int32} {e : Nat} (hR : RX gc h A I xs ys v F) (he : e < 6) (hl : (uR v (8 + e)).length ≤ 64) : WP gc (d + 4) 58 [.ref (A (20 + e)), .int x] h (fun r h' => r = some (.int (fo (nEq x) (uR v (8 + e)) 0)) ∧ h' = h) :=
  M58 (findN_loop hR he hl (uR v (8 + e)).length 0 (by omega) ⟨rfl, rfl⟩)
theorem isQu_rng {I : Nat → Int32} {x : Int32} (h : isQu I x = true) : ∃ e : Nat, e < 6 ∧ x = nI e := by
  unfold isQu at h
  have h1 := (Bool.and_eq_true _ _ ▸ h).1
  have := of_decide_eq_true h1
  exact rng (n := 5) (by decide) this.1 this.2
theorem isEx_rng {I : Nat → Int32} {x : Int32} (h : isEx I x = true) : ∃ e : Nat, e < 5 ∧ x = nI e := by
  unfold isEx at h
  have h1 := (Bool.and_eq_true _ _ ▸ h).1
  have := of_decide_eq_true h1
  exact rng (n := 4) (by decide) this.1 this.2
def opCs (I : Nat → Int32) (v : Mu) (x1 x2 : Int32) (au : Bool) : Int32 × Mu :=
  if wi x1 0 3 && isQu I x2 then
    (let k := 8 + x2.toNatClampNeg
    if ix (nEq x1) (uR v k) < (uR v k).length then (-3, v) else (0, upR v k (uR v k ++ [(x1, au)])))
  else (-1, v)
theorem k_consume {gc : Nat → Nat} {d : Nat} {h : AH} {A : Nat → Nat} {I : Nat → Int32} {v : Mu} {F : Nat} {x1 x2 : Int32} {au : Bool} (hR : RC gc h A I v (F + 1)) (hl : ∀ q, q < 6 → (uR v (8 + q)).length ≤ 64) : WP gc (d + 7) 57 [.ref (A 0), .int x1, .int x2, .int (b2i au)] h (fun r h' => r = some (.int (opCs I v x1 x2 au).1) ∧ RC gc h' A I (opCs I v x1 x2 au).2 F ∧ KC h h') := by
  obtain ⟨xs, hX⟩ := hR
  have hR : RC gc h A I v (F + 1) := ⟨xs, hX⟩
  have hF := hX.rf
  have bad : (wi x1 0 3 && isQu I x2) = false → (some (Value.int (-1)) = some (Value.int (opCs I v x1 x2 au).1) ∧ RC gc h A I (opCs I v x1 x2 au).2 F ∧ KC h h) := fun hb => by
    unfold opCs
    rw [hb, if_neg (by decide)]
    exact ⟨rfl, hR.le (by omega), KC.refl⟩
  refine M57 ⟨_, k_isChannel, ?_⟩
  rintro r h' ⟨rfl, rfl⟩
  refine ⟨_, rfl, fun z => B57_15 (bad ?_), fun z1 => ⟨⟨_, hF.2.1⟩, _, k_isQ hF, ?_⟩⟩
  · rw [show wi x1 0 3 = false from b2i_z.mp z]; rfl
  rintro r h' ⟨rfl, rfl⟩
  refine ⟨_, rfl, fun z2 => B57_17 ?_, fun z => B57_15 (bad ?_)⟩
  rotate_left
  · rw [b2i_z.mp z, Bool.and_false]
  have z1 : wi x1 0 3 = true := b2i_nz z1
  have z2 := b2i_nz z2
  obtain ⟨e, he, rfl⟩ := isQu_rng z2
  have ho : opCs I v x1 (nI e) au = if ix (nEq x1) (uR v (8 + e)) < (uR v (8 + e)).length then (-3, v) else (0, upR v (8 + e) (uR v (8 + e) ++ [(x1, au)])) := by
    unfold opCs
    rw [z1, z2, nI_clamp (by omega)]
    rfl
  obtain ⟨t, vs, g1, g2, g3, g4⟩ := hF.quA he
  have hle := hl e he
  refine ⟨_, _, hF.2.1, rfl, t, vs, _, g1, g2, g3, g4, ⟨_, hF.quO he⟩, _, k_findN hX he hle, ?_⟩
  rintro r h' ⟨rfl, rfl⟩
  rcases fo_c (p := nEq x1) (ys := uR v (8 + e)) (by omega) with ⟨w1, w2⟩ | ⟨w1, w2, w3⟩
  · rw [if_neg w2] at ho
    obtain ⟨n1, n2, n3, n4, n5⟩ := hX.new (t := 3) (vs := [.int x1, .int (b2i au)]) (Nat.le_of_ble_eq_true rfl)
    refine ⟨_, rfl, fun _ => B57_34 ⟨_, _, hF.2.1, rfl, t, vs, _, g1, g2, g3, g4, _, _, hF.quO he, rfl, n2, Nat.le_trans (by decide) n3, ?_⟩, fun z => absurd w1 z⟩
    rintro _ _ rfl rfl
    refine ⟨_, k_newN (b2i_01 _), ?_⟩
    rintro r h' ⟨rfl, rfl⟩
    refine ⟨rfl, n1.lst (lt_R (isR_q he)), _, rx_addR (x := (x1, au)) n1 (isR_q he) (n1.xR (isR_q he)) (by rw [if_neg (by omega)]; omega) at_new (fun z => absurd z (by unfold isC; omega)), ?_⟩
    rintro r h' ⟨rfl, q1, q2⟩
    rw [ho]
    exact ⟨_, rfl, rfl, ⟨_, q1⟩, n4.trans q2.kc⟩
  · rw [if_pos w1] at ho
    refine ⟨_, rfl, fun z => absurd z w3, fun _ => ?_⟩
    rw [ho]
    exact ⟨rfl, hR.le (by omega), KC.refl⟩
/-- a row without the channel's consumer -/
def rmN (x : Int32) (ys : List Con) : List Con := if ix (nEq x) ys < ys.length then ys.eraseIdx (ix (nEq x) ys) else ys
theorem k_rmN {gc : Nat → Nat} {d : Nat} {h : AH} {A : Nat → Nat} {I : Nat → Int32} {xs ys : Nat → List Nat} {v : Mu} {F : Nat} {x : Int32} {e : Nat} (hR : RX gc h A I xs ys v F) (he : e < 6) (hl : (uR v (8 + e)).length ≤ 64) : WP gc (d + 5) 61 [.ref (A (20 + e)), .int x] h (fun r h' => r = some (.int (b2i (decide (ix (nEq x) (uR v (8 + e)) < (uR v (8 + e)).length)))) ∧ (∃ as, RX gc h' A I (va_up xs (8 + e) as) (va_up ys (8 + e) as) (upR v (8 + e) (rmN x (uR v (8 + e)))) F) ∧ KL h h') := by
  have hb := isR_q he
  have hx := hR.xR hb
  refine M61 ⟨⟨_, hR.rf.quO he⟩, _, k_findN hR he hl, ?_⟩
  rintro r h' ⟨rfl, rfl⟩
  unfold rmN
  rcases fo_c (p := nEq x) (ys := uR v (8 + e)) (by omega) with ⟨w1, w2⟩ | ⟨w1, w2, w3⟩
  · refine ⟨_, rfl, fun z => absurd w1 z, fun _ => ⟨Or.inl rfl, ?_⟩⟩
    rw [if_neg w2, decide_eq_false w2]
    refine ⟨rfl, ⟨xs (8 + e), ?_⟩, KL.refl⟩
    have u1 : ∀ {α : Type} (f : Nat → α) (k : Nat), va_up f k (f k) = f := fun f k => by
      funext j
      by_cases hj : j = k
      · subst hj; rw [va_up_self]
      · rw [va_up_ne _ _ hj]
    rw [u1, ← hx, u1]
    have : upR v (8 + e) (uR v (8 + e)) = v := by
      unfold upR uR
      rw [u1]
    rw [this]
    exact hR
  · rw [w2]
    refine ⟨_, rfl, fun _ => B61_13 ⟨_, _, hR.rf.quO he, rfl, hR.lst (lt_R hb), _, rx_rmR hR hb hx w1, ?_⟩, fun z => absurd (w2.trans z) w3⟩
    rintro r h' ⟨a, rfl, q1, q2, -⟩
    refine ⟨_, rfl, Or.inr rfl, ?_⟩
    rw [if_pos w1, decide_eq_true w1]
    rw [hx] at q1
    exact ⟨rfl, ⟨_, q1⟩, q2⟩
def opCa (I : Nat → Int32) (v : Mu) (x1 x2 : Int32) : Int32 × Mu :=
  if wi x1 0 3 && isQu I x2 then
    (let k := 8 + x2.toNatClampNeg
    (if ix (nEq x1) (uR v k) < (uR v k).length then 0 else -3, upR v k (rmN x1 (uR v k))))
  else (-1, v)
theorem k_cancel {gc : Nat → Nat} {d : Nat} {h : AH} {A : Nat → Nat} {I : Nat → Int32} {v : Mu} {F : Nat} {x1 x2 : Int32} (hR : RC gc h A I v F) (hl : ∀ q, q < 6 → (uR v (8 + q)).length ≤ 64) : WP gc (d + 6) 60 [.ref (A 0), .int x1, .int x2] h (fun r h' => r = some (.int (opCa I v x1 x2).1) ∧ RC gc h' A I (opCa I v x1 x2).2 F ∧ KC h h') := by
  obtain ⟨xs, hX⟩ := hR
  have hR : RC gc h A I v F := ⟨xs, hX⟩
  have hF := hX.rf
  have bad : (wi x1 0 3 && isQu I x2) = false → (some (Value.int (-1)) = some (Value.int (opCa I v x1 x2).1) ∧ RC gc h A I (opCa I v x1 x2).2 F ∧ KC h h) := fun hb => by
    unfold opCa
    rw [hb, if_neg (by decide)]
    exact ⟨rfl, hR, KC.refl⟩
  refine M60 ⟨_, k_isChannel, ?_⟩
  rintro r h' ⟨rfl, rfl⟩
  refine ⟨_, rfl, fun z => B60_15 (bad ?_), fun z1 => ⟨⟨_, hF.2.1⟩, _, k_isQ hF, ?_⟩⟩
  · rw [show wi x1 0 3 = false from b2i_z.mp z]; rfl
  rintro r h' ⟨rfl, rfl⟩
  refine ⟨_, rfl, fun z2 => B60_17 ?_, fun z => B60_15 (bad ?_)⟩
  rotate_left
  · rw [b2i_z.mp z, Bool.and_false]
  have z1 : wi x1 0 3 = true := b2i_nz z1
  have z2 := b2i_nz z2
  obtain ⟨e, he, rfl⟩ := isQu_rng z2
  have ho : opCa I v x1 (nI e) = (if ix (nEq x1) (uR v (8 + e)) < (uR v (8 + e)).length then 0 else -3, upR v (8 + e) (rmN x1 (uR v (8 + e)))) := by
    unfold opCa
    rw [z1, z2, nI_clamp (by omega)]
    rfl
  obtain ⟨t, vs, g1, g2, g3, g4⟩ := hF.quA he
  refine ⟨_, _, hF.2.1, rfl, t, vs, _, g1, g2, g3, g4, ⟨_, hF.quO he⟩, _, k_rmN hX he (hl e he), ?_⟩
  rintro r h' ⟨rfl, ⟨as, q1⟩, q2⟩
  rw [ho]
  by_cases w : ix (nEq x1) (uR v (8 + e)) < (uR v (8 + e)).length
  · rw [decide_eq_true w, if_pos w]
    exact ⟨_, rfl, fun z => absurd z (by decide), fun _ => B60_36 ⟨rfl, ⟨_, q1⟩, q2.kc⟩⟩
  · rw [decide_eq_false w, if_neg w]
    exact ⟨_, rfl, fun _ => B60_34 (B60_36 ⟨rfl, ⟨_, q1⟩, q2.kc⟩), fun z => absurd rfl z⟩
end
section
/-! deliver -/
def able (I : Nat → Int32) (v : Mu) (x : Con) : Bool := x.2 || decide (¬ I (300 + 10 * x.1.toNatClampNeg) ≤ nI (uC v (14 + x.1.toNatClampNeg)).length)
def chOK (ys : List Con) : Prop := ∀ x, x ∈ ys → ∃ c : Nat, c < 4 ∧ x.1 = nI c
theorem able_loop {gc : Nat → Nat} {d : Nat} {h : AH} {A : Nat → Nat} {I : Nat → Int32} {v : Mu} {F : Nat} {xs : Nat → List Nat} {q : PT} {e : Nat} (hR : RX gc h A I xs xs v F) (he : e < 6) (hl : (uR v (8 + e)).length ≤ 64) (hc : chOK (uR v (8 + e))) : ∀ n i v3 v4, i + n = (uR v (8 + e)).length → q (some (.int (fo (able I v) ((uR v (8 + e)).drop i) i))) h → TT gc (d + 3) 64 q 2 [.ref (A 0), .ref (A (20 + e)), .int (nI i), v3, v4] [] h := by
  have hF := hR.rf
  have hq := hF.quO he
  have hb := isR_q he
  intro n
  induction n with
  | zero =>
    intro i v3 v4 hi hz
    refine B64_2 ⟨_, _, hq, rfl, hR.lst (lt_R hb), _, rx_sizeR hR hb rfl, ?_⟩
    rintro r h' ⟨rfl, rfl⟩
    refine ⟨_, rfl, fun _ => B64_67 ?_, fun z => absurd (nI_le (by omega) (by omega)) z⟩
    rw [List.drop_eq_nil_of_le (by omega)] at hz
    exact hz
  | succ n ih =>
    intro i v3 v4 hi hz
    have hil : i < (uR v (8 + e)).length := by omega
    refine B64_2 ⟨_, _, hq, rfl, hR.lst (lt_R hb), _, rx_sizeR hR hb rfl, ?_⟩
    rintro r h' ⟨rfl, rfl⟩
    refine ⟨_, rfl, fun z => absurd z (nI_ge hil (by omega)), fun _ => ⟨_, _, hq, rfl, hR.lst (lt_R hb), _, rx_getR hR hb rfl hil, ?_⟩⟩
    rintro r h2 ⟨a, rfl, rfl, -, ha⟩
    rw [List.drop_eq_getElem_cons hil, fo_cons] at hz
    obtain ⟨c, hc4, hcx⟩ := hc _ (List.getElem_mem hil)
    generalize hy : (uR v (8 + e))[i] = y at ha hz hcx
    obtain ⟨t, vs, g1, g2, g3, g4⟩ := hF.chA hc4
    obtain ⟨y1, y2⟩ := y
    have hcx : y1 = nI c := hcx
    subst hcx
    have hab : able I v (nI c, y2) = (y2 || decide (¬ I (300 + 10 * c) ≤ nI (uC v (14 + c)).length)) := by
      unfold able
      rw [nI_clamp (by omega)]
    refine ⟨a, rfl, _, ha, _, _, hF.2.1, rfl, _, _, ha, rfl, t, vs, _, g1, g2, g3, g4, _, _, ha, rfl, fun z => B64_59 ?_, fun z => ⟨_, _, hF.chO hc4, rfl, hR.lst (lt_C (isC_c hc4)), _, rx_sizeC hR (isC_c hc4) rfl, ?_⟩⟩
    · have : y2 = true := b2i_nz z
      subst this
      rw [hab, Bool.true_or, if_pos rfl] at hz
      exact hz
    · have : y2 = false := b2i_z.mp z
      subst this
      rw [Bool.false_or] at hab
      rintro r h3 ⟨rfl, rfl⟩
      refine ⟨_, rfl, _, _, hF.chO hc4, rfl, fun z => B64_61 ?_, fun z => B64_59 ?_⟩
      · rw [hab, decide_eq_false (fun w => w z), if_neg (by decide)] at hz
        rw [nI_1]
        exact ih (i + 1) _ _ (by omega) hz
      · rw [hab, decide_eq_true z, if_pos rfl] at hz
        exact hz
theorem k_able {gc : Nat → Nat} {d : Nat} {h : AH} {A : Nat → Nat} {I : Nat → Int32} {v : Mu} {F : Nat} {xs : Nat → List Nat} {e : Nat} (hR : RX gc h A I xs xs v F) (he : e < 6) (hl : (uR v (8 + e)).length ≤ 64) (hc : chOK (uR v (8 + e))) : WP gc (d + 4) 64 [.ref (A 0), .ref (A (20 + e))] h (fun r h' => r = some (.int (fo (able I v) (uR v (8 + e)) 0)) ∧ h' = h) :=
  M64 (able_loop hR he hl hc (uR v (8 + e)).length 0 _ _ (by omega) ⟨rfl, rfl⟩)
/-- consumers stay -/
def KN (h h' : AH) : Prop := ∀ (b : Nat) (vs : List Value), at_ h b 3 vs → at_ h' b 3 vs
/-- held by a channel, with a tag -/
def rHold (r : Rec) (t : Int32) : Rec := (rM r, rRet r, rQ r, rP r, t, -1)
theorem k_hold {gc : Nat → Nat} {d : Nat} {h : AH} {A : Nat → Nat} {I : Nat → Int32} {v : Mu} {F : Nat} {xs : Nat → List Nat} {c a k : Nat} {r : Rec} (hR : RX gc h A I xs xs v F) (hc : c < 4) (ha : CpAt k h a r) (hf : free xs a) (hl : (uC v (14 + c)).length ≤ 64) : WP gc (d + 7) 65 [.ref (A (30 + c)), .ref a] h (fun r' h' => r' = none ∧ RC gc h' A (upd I (302 + 10 * c) (I (302 + 10 * c) + 1)) (upC v (14 + c) (uC v (14 + c) ++ [rHold r (I (302 + 10 * c) + 1)])) F ∧ KC h h' ∧ KN h h') := by
  have hch := hR.rf.chO hc
  obtain ⟨m, D, ha, -, hm⟩ := ha
  refine M65 ⟨_, _, hch, rfl, _, hch, Nat.le_of_ble_eq_true rfl, trivial, ?_⟩
  rintro h4 rfl
  obtain ⟨w1, w2, w3⟩ := hR.wrCh (U := upd I (302 + 10 * c) (I (302 + 10 * c) + 1)) hc (n0 := I (300 + 10 * c)) (n1 := I (301 + 10 * c)) (n2 := I (302 + 10 * c) + 1) (fun j hj => pk_un (by omega)) (pk_un (by omega)) (pk_un (by omega)) pk_us
  refine ⟨_, _, at_s, rfl, _, w3 _ _ _ (by omega) ha, Nat.le_of_ble_eq_true rfl, trivial, ?_⟩
  rintro h8 rfl
  refine ⟨_, at_s, Nat.le_of_ble_eq_true rfl, trivial, ?_⟩
  rintro h10 rfl
  rw [set_set]
  obtain ⟨x1, x2⟩ := w1.wrF (vs' := [.ref m, .int (rQ r), .int (rP r), .int (b2i (rRet r)), .int (I (302 + 10 * c) + 1), .int (-1)]) hf (w3 _ _ _ (by omega) ha)
  have hcp : CpAt (14 + c) (ah_set (ah_set h (A (30 + c)) (2, [.int (I (300 + 10 * c)), .int (I (301 + 10 * c)), .int (I (302 + 10 * c) + 1), .ref (A (40 + (14 + c))), .ref (A (40 + (18 + c)))])) a (4, [.ref m, .int (rQ r), .int (rP r), .int (b2i (rRet r)), .int (I (302 + 10 * c) + 1), .int (-1)])) a (rHold r (I (302 + 10 * c) + 1)) := ⟨m, -1, at_s, fun _ => rfl, at_n (w3 _ _ _ (by omega) hm) (at_ne hm ha (by decide))⟩
  have hch2 := x1.rf.chO hc
  refine ⟨_, _, hch2, rfl, x1.lst (lt_C (isC_c hc)), _, rx_addC x1 (isC_c hc) rfl (by rw [if_neg (by omega)]; omega) hcp (fun _ => hf), ?_⟩
  rintro r' h' ⟨rfl, q1, q2⟩
  refine ⟨_, rfl, rfl, ⟨_, q1⟩, (w2.trans x2).trans q2.kc, fun b ws hb => q2 _ _ _ (by decide) (by decide) (by decide) (at_n (w3 _ _ _ (by omega) hb) (at_ne hb ha (by decide)))⟩
def opDl (I : Nat → Int32) (v : Mu) (x : Int32) : Int32 × (Nat → Int32) × Mu :=
  if isQu I x then
    match uC v (2 + x.toNatClampNeg) with
    | [] => (-5, I, v)
    | r :: W => match (uR v (8 + x.toNatClampNeg))[ix (able I v) (uR v (8 + x.toNatClampNeg))]? with
      | none => (-6, I, v)
      | some c => (fun v2 : Mu => if c.2 then (c.1, I, v2) else (c.1, upd I (302 + 10 * c.1.toNatClampNeg) (I (302 + 10 * c.1.toNatClampNeg) + 1), upC v2 (14 + c.1.toNatClampNeg) (uC v (14 + c.1.toNatClampNeg) ++ [rHold r (I (302 + 10 * c.1.toNatClampNeg) + 1)]))) (upC (upR v (8 + x.toNatClampNeg) ((uR v (8 + x.toNatClampNeg)).eraseIdx (ix (able I v) (uR v (8 + x.toNatClampNeg))) ++ [c])) (2 + x.toNatClampNeg) W)
  else (-1, I, v)
theorem k_deliver {gc : Nat → Nat} {d : Nat} {h : AH} {A : Nat → Nat} {I : Nat → Int32} {v : Mu} {F : Nat} {x : Int32} (hR : RC gc h A I v F) (hl : ∀ q, q < 6 → (uR v (8 + q)).length ≤ 64) (hc : ∀ q, q < 6 → chOK (uR v (8 + q))) (hh : ∀ c, c < 4 → (uC v (14 + c)).length ≤ 64) : WP gc (d + 8) 62 [.ref (A 0), .int x] h (fun r h' => r = some (.int (opDl I v x).1) ∧ RC gc h' A (opDl I v x).2.1 (opDl I v x).2.2 F ∧ KC h h') := by
  obtain ⟨xs, hX⟩ := hR
  have hR : RC gc h A I v F := ⟨xs, hX⟩
  have hF := hX.rf
  refine M62 ⟨⟨_, hF.2.1⟩, _, k_isQ hF, ?_⟩
  rintro r h' ⟨rfl, rfl⟩
  refine ⟨_, rfl, fun z => B62_10 ?_, fun z => ?_⟩
  rotate_left
  · unfold opDl
    rw [b2i_z.mp z]
    exact ⟨rfl, hR, KC.refl⟩
  have z := b2i_nz z
  obtain ⟨e, he, rfl⟩ := isQu_rng z
  obtain ⟨t, vs, g1, g2, g3, g4⟩ := hF.quA he
  have hle := hl e he
  have ho : ∀ r W, uC v (2 + e) = r :: W → opDl I v (nI e) = (match (uR v (8 + e))[ix (able I v) (uR v (8 + e))]? with
      | none => (-6, I, v)
      | some c => (fun v2 : Mu => if c.2 then (c.1, I, v2) else (c.1, upd I (302 + 10 * c.1.toNatClampNeg) (I (302 + 10 * c.1.toNatClampNeg) + 1), upC v2 (14 + c.1.toNatClampNeg) (uC v (14 + c.1.toNatClampNeg) ++ [rHold r (I (302 + 10 * c.1.toNatClampNeg) + 1)]))) (upC (upR v (8 + e) ((uR v (8 + e)).eraseIdx (ix (able I v) (uR v (8 + e))) ++ [c])) (2 + e) W)) := fun r W hW => by
    unfold opDl
    rw [z, if_pos rfl, nI_clamp (by omega), hW]
  have hemp : ∀ s, WP gc (d + 7) 63 [.ref (A (40 + (2 + e)))] h' s ↔ WP gc (d + 7) 63 [.ref (A (40 + (2 + e)))] h' s := fun _ => Iff.rfl
  refine ⟨_, _, hF.2.1, rfl, t, vs, _, g1, g2, g3, g4, _, _, hF.quO he, rfl, hX.lst (lt_C (isC_q he)), _, rs_isEmpty hX.1 (lt_C (isC_q he)), ?_⟩
  rintro r h2 ⟨rfl, rfl⟩
  have hA2 := hX.2.1.C (isC_q he)
  have hln := hA2.len
  cases hW : uC v (2 + e) with
  | nil =>
    rw [hW] at hln
    have : xs (2 + e) = [] := List.length_eq_zero_iff.mp hln
    rw [if_pos this]
    refine ⟨_, rfl, fun w => absurd w (by decide), fun _ => ?_⟩
    unfold opDl
    rw [z, if_pos rfl, nI_clamp (by omega), hW]
    exact ⟨rfl, hR, KC.refl⟩
  | cons r W =>
    rw [hW] at hln
    have : ¬ xs (2 + e) = [] := fun w => by rw [w] at hln; cases hln
    have ho := ho r W hW
    rw [if_neg this]
    refine ⟨_, rfl, fun _ => B62_30 ⟨⟨_, hF.2.1⟩, _, k_able hX he hle (hc e he), ?_⟩, fun w => absurd rfl w⟩
    rintro r' h3 ⟨rfl, rfl⟩
    rcases fo_c (p := able I v) (ys := uR v (8 + e)) (by omega) with ⟨w1, w2⟩ | ⟨w1, w2, w3⟩
    · refine ⟨_, rfl, fun w => absurd w1 w, fun _ => ?_⟩
      rw [List.getElem?_eq_none (by omega)] at ho
      rw [ho]
      exact ⟨rfl, hR, KC.refl⟩
    · rw [List.getElem?_eq_getElem w1] at ho
      rw [w2]
      have hb := isR_q he
      refine ⟨_, rfl, fun _ => B62_44 ⟨_, _, hF.quO he, rfl, hX.lst (lt_R hb), _, rx_rmR hX hb rfl w1, ?_⟩, fun w => absurd (w2.trans w) w3⟩
      rintro r' h4 ⟨a, rfl, y1, y2, -, ha⟩
      refine ⟨_, rfl, _, ha, _, _, y1.rf.quO he, rfl, y1.lst (lt_R hb), _, rx_addR y1 hb rfl (by rw [if_neg (by omega), uR_s, List.length_eraseIdx]; split <;> omega) ha (fun w => absurd w (by unfold isC; omega)), ?_⟩
      rintro r' h5 ⟨rfl, y3, y4⟩
      rw [uR_s, upR_upR] at y3
      have hW' : uC (upR v (8 + e) ((uR v (8 + e)).eraseIdx (ix (able I v) (uR v (8 + e))) ++ [(uR v (8 + e))[ix (able I v) (uR v (8 + e))]])) (2 + e) = r :: W := hW
      refine ⟨_, rfl, _, _, y3.rf.quO he, rfl, y3.lst (lt_C (isC_q he)), _, rx_rmC (j := 0) y3 (isC_q he) rfl (by rw [hW']; exact Nat.succ_pos _), ?_⟩
      rintro r' h6 ⟨a2, rfl, y5, y6, y7, ha2⟩
      have hfr := (y3.2.2.1.er (isC_q he) y7).2
      have er : (uC (upR v (8 + e) ((uR v (8 + e)).eraseIdx (ix (able I v) (uR v (8 + e))) ++ [(uR v (8 + e))[ix (able I v) (uR v (8 + e))]])) (2 + e)).eraseIdx 0 = W := by rw [hW']; rfl
      rw [er] at y5
      have eh : (uC (upR v (8 + e) ((uR v (8 + e)).eraseIdx (ix (able I v) (uR v (8 + e))) ++ [(uR v (8 + e))[ix (able I v) (uR v (8 + e))]])) (2 + e))[0]'(by rw [hW']; exact Nat.succ_pos _) = r := by simp only [hW', List.getElem_cons_zero]
      rw [eh] at ha2
      have hn : CnAt h6 a (uR v (8 + e))[ix (able I v) (uR v (8 + e))] := CnAt.ko (y4.trans y6).ko ha
      obtain ⟨ws2, hw2⟩ := ha2.tag
      have hmem := hc e he _ (List.getElem_mem w1)
      generalize (uR v (8 + e))[ix (able I v) (uR v (8 + e))] = cn at ho y5 hn hmem
      have hkc : KC h3 h6 := ((y2.trans y4).trans y6).kc
      refine ⟨_, rfl, _, hw2, _, _, hn, rfl, fun w => B62_103 ⟨_, _, hn, rfl, ?_⟩, fun w => ?_⟩
      · rw [ho]
        dsimp only
        rw [b2i_nz w, if_pos rfl]
        exact ⟨rfl, ⟨_, y5⟩, hkc⟩
      · obtain ⟨c, hc4, hcx⟩ := hmem
        obtain ⟨n1, n2⟩ := cn
        have hcx : n1 = nI c := hcx
        subst hcx
        have w : n2 = false := b2i_z.mp w
        subst w
        obtain ⟨t', vs', k1, k2, k3, k4⟩ := y5.rf.chA hc4
        have e14 : uC (upC (upR v (8 + e) ((uR v (8 + e)).eraseIdx (ix (able I v) (uR v (8 + e))) ++ [(nI c, false)])) (2 + e) W) (14 + c) = uC v (14 + c) := uC_n (by omega)
        refine ⟨_, _, y5.rf.2.1, rfl, _, _, hn, rfl, t', vs', _, k1, k2, k3, k4, ⟨_, y5.rf.chO hc4⟩, _, k_hold y5 hc4 ha2 hfr (by rw [e14]; exact hh c hc4), ?_⟩
        rintro r' h7 ⟨rfl, q1, q2, q3⟩
        rw [e14] at q1
        refine ⟨rfl, B62_103 ⟨_, _, q3 _ _ hn, rfl, ?_⟩⟩
        rw [ho]
        dsimp only
        rw [if_neg (by decide), nI_clamp (by omega)]
        exact ⟨rfl, q1, hkc.trans q2⟩
end
section
/-! patterns against keys: rm P K i n: the last i items of the pattern can stand for the last n words of the key -/
def rmS (p : Nat) (K : Nat → Nat) (prev : Nat → Bool) : Nat → Bool
  | 0 => if p = 15 then prev 0 else false
  | n + 1 => if p = 15 then prev (n + 1) || rmS p K prev n else (decide (p = 14) || decide (p = K n)) && prev n
def rm (P K : Nat → Nat) : Nat → Nat → Bool
  | 0 => fun n => n == 0
  | i + 1 => rmS (P i) K (rm P K i)
def isM (p k : Int32) : Bool := rm (dg p) (dg k) (ct p) (ct k)
def bt9 (b0 b1 b2 b3 b4 b5 b6 b7 b8 : Bool) : Nat := b0.toNat + 2 * (b1.toNat + 2 * (b2.toNat + 2 * (b3.toNat + 2 * (b4.toNat + 2 * (b5.toNat + 2 * (b6.toNat + 2 * (b7.toNat + 2 * b8.toNat)))))))
def bt (f : Nat → Bool) : Nat := bt9 (f 0) (f 1) (f 2) (f 3) (f 4) (f 5) (f 6) (f 7) (f 8)
theorem bt9_lt : ∀ b0 b1 b2 b3 b4 b5 b6 b7 b8 : Bool, bt9 b0 b1 b2 b3 b4 b5 b6 b7 b8 < 512 := by decide +kernel
theorem bt9_bit : ∀ b0 b1 b2 b3 b4 b5 b6 b7 b8 : Bool, (bt9 b0 b1 b2 b3 b4 b5 b6 b7 b8).testBit 0 = b0 ∧ (bt9 b0 b1 b2 b3 b4 b5 b6 b7 b8).testBit 1 = b1 ∧ (bt9 b0 b1 b2 b3 b4 b5 b6 b7 b8).testBit 2 = b2 ∧ (bt9 b0 b1 b2 b3 b4 b5 b6 b7 b8).testBit 3 = b3 ∧ (bt9 b0 b1 b2 b3 b4 b5 b6 b7 b8).testBit 4 = b4 ∧ (bt9 b0 b1 b2 b3 b4 b5 b6 b7 b8).testBit 5 = b5 ∧ (bt9 b0 b1 b2 b3 b4 b5 b6 b7 b8).testBit 6 = b6 ∧ (bt9 b0 b1 b2 b3 b4 b5 b6 b7 b8).testBit 7 = b7 ∧ (bt9 b0 b1 b2 b3 b4 b5 b6 b7 b8).testBit 8 = b8 := by decide +kernel
theorem bt_lt (f : Nat → Bool) : bt f < 512 := bt9_lt _ _ _ _ _ _ _ _ _
theorem bt_bit (f : Nat → Bool) {n : Nat} (hn : n < 9) : (bt f).testBit n = f n := by
  have := bt9_bit (f 0) (f 1) (f 2) (f 3) (f 4) (f 5) (f 6) (f 7) (f 8)
  obtain ⟨h0, h1, h2, h3, h4, h5, h6, h7, h8⟩ := this
  match n, hn with
  | 0, _ => exact h0
  | 1, _ => exact h1
  | 2, _ => exact h2
  | 3, _ => exact h3
  | 4, _ => exact h4
  | 5, _ => exact h5
  | 6, _ => exact h6
  | 7, _ => exact h7
  | 8, _ => exact h8
theorem bt_eq {f g : Nat → Bool} (h : ∀ n, n < 9 → f n = g n) : bt f = bt g := by
  unfold bt
  rw [h 0 (by decide), h 1 (by decide), h 2 (by decide), h 3 (by decide), h 4 (by decide), h 5 (by decide), h 6 (by decide), h 7 (by decide), h 8 (by decide)]
def pos (k : Nat) : Int32 := ((1 : Int32) <<< ((nI k + 1) &&& 31)) - 1
theorem m_sh : ∀ k, k < 9 → ∀ m, m < 512 → pos k &&& (nI m <<< (1 &&& 31)) = nI (bt (fun n => decide (n ≤ k) && (decide (0 < n) && m.testBit (n - 1)))) := by decide +kernel
theorem m_up : ∀ k, k < 9 → ∀ m, m < 512 → pos k &&& (-(nI m &&& (-nI m))) = nI (bt (fun n => decide (n ≤ k) && !(m % 2 ^ (n + 1) == 0))) := by decide +kernel
theorem m_and : ∀ k, k < 9 → ∀ m, m < 512 → pos k &&& nI m = nI (bt (fun n => decide (n ≤ k) && m.testBit n)) := by decide +kernel
theorem m_bit : ∀ n, n < 9 → ∀ m, m < 512 → ((nI m >>> (nI n &&& 31)) &&& 1) = nI (m.testBit n).toNat := by decide +kernel
theorem m_or : ∀ n, n < 8 → ∀ m, m < 512 → nI m ||| ((1 : Int32) <<< ((nI n + 1) &&& 31)) = nI (m ||| 2 ^ (n + 1)) ∧ m ||| 2 ^ (n + 1) < 512 := by decide +kernel
theorem m_low : ∀ n, n < 9 → ∀ m, m < 512 → (!(m % 2 ^ (n + 1) == 0)) = (m.testBit n || (decide (0 < n) && !(m % 2 ^ n == 0))) := by decide +kernel
end
section
/-- a word's step, from word n on -/
def wdF (m p : Nat) (K : Nat → Nat) : Nat → Nat → Nat → Nat
  | 0, _, f => f
  | l + 1, n, f => wdF m p K l (n + 1) (if m.testBit n && decide (K n = p) then f ||| 2 ^ (n + 1) else f)
theorem wdF_bit {m p : Nat} {K : Nat → Nat} : ∀ l n f, n + l = 8 → f < 512 → wdF m p K l n f < 512 ∧ ∀ j, (wdF m p K l n f).testBit j = (f.testBit j || (decide (n < j ∧ j ≤ 8) && (m.testBit (j - 1) && decide (K (j - 1) = p)))) := by
  intro l
  induction l with
  | zero =>
    intro n f hn hf
    refine ⟨hf, fun j => ?_⟩
    rw [show decide (n < j ∧ j ≤ 8) = false from decide_eq_false (by omega), Bool.false_and, Bool.or_false]
    rfl
  | succ l ih =>
    intro n f hn hf
    show wdF m p K l (n + 1) (if m.testBit n && decide (K n = p) then f ||| 2 ^ (n + 1) else f) < 512 ∧ ∀ j, (wdF m p K l (n + 1) (if m.testBit n && decide (K n = p) then f ||| 2 ^ (n + 1) else f)).testBit j = _
    cases hb : (m.testBit n && decide (K n = p)) with
    | true =>
      rw [if_pos rfl]
      obtain ⟨h1, h2⟩ := ih (n + 1) (f ||| 2 ^ (n + 1)) (by omega) (m_or n (by omega) f hf).2
      refine ⟨h1, fun j => ?_⟩
      rw [h2 j, Nat.testBit_or, Nat.testBit_two_pow]
      by_cases hj : n + 1 = j
      · subst hj
        rw [decide_eq_true rfl, Bool.or_true, Bool.true_or, Nat.add_sub_cancel, hb, decide_eq_true (show n < n + 1 ∧ n + 1 ≤ 8 by omega), Bool.and_true, Bool.or_true]
      · rw [decide_eq_false hj, Bool.or_false]
        rw [show decide (n + 1 < j ∧ j ≤ 8) = decide (n < j ∧ j ≤ 8) from decide_eq_decide.mpr (by omega)]
    | false =>
      rw [if_neg (by decide)]
      obtain ⟨h1, h2⟩ := ih (n + 1) f (by omega) hf
      refine ⟨h1, fun j => ?_⟩
      rw [h2 j]
      by_cases hj : n + 1 = j
      · subst hj
        rw [Nat.add_sub_cancel, hb, Bool.and_false, Bool.and_false]
      · rw [show decide (n + 1 < j ∧ j ≤ 8) = decide (n < j ∧ j ≤ 8) from decide_eq_decide.mpr (by omega)]
theorem wd_loop {gc : Nat → Nat} {d m p : Nat} {h : AH} {k : Int32} {q : PT} (hm : m < 512) (hp : p < 16) : ∀ l n f, n + l = 8 → f < 512 → q (some (.int (nI (wdF m p (dg k) l n f)))) h → TT gc (d + 1) 47 q 29 [.int (nI m), .int (nI p), .int k, .int (nI f), .int (nI n)] [] h := by
  intro l
  induction l with
  | zero =>
    intro n f hn hf hq
    exact B47_29 ⟨fun _ => B47_70 hq, fun z => absurd (show (8 : Int32) ≤ nI n from nI_le (a := 8) (by omega) (by omega)) z⟩
  | succ l ih =>
    intro n f hn hf hq
    have hq : q (some (.int (nI (wdF m p (dg k) l (n + 1) (if m.testBit n && decide (dg k n = p) then f ||| 2 ^ (n + 1) else f))))) h := hq
    have hb := m_bit n (by omega) m hm
    refine B47_29 ⟨fun z => absurd z (show ¬ (8 : Int32) ≤ nI n from nI_ge (b := 8) (by omega) (by decide)), fun _ => ⟨fun z => B47_64 ?_, fun z => ⟨_, k_itemAt (by omega), ?_⟩⟩⟩
    · rw [hb] at z
      have z0 := (nI_z (by cases m.testBit n <;> decide)).mp z
      have z1 : m.testBit n = false := by cases hc : m.testBit n <;> simp_all
      rw [z1, Bool.false_and, if_neg (by decide)] at hq
      rw [nI_1]
      exact ih (n + 1) f (by omega) hf hq
    · rw [hb] at z
      have z1 : m.testBit n = true := by
        cases hc : m.testBit n with
        | true => rfl
        | false => rw [hc] at z; exact absurd rfl z
      rintro r h' ⟨rfl, rfl⟩
      rw [z1, Bool.true_and] at hq
      have hd := dg_lt k n
      refine ⟨_, rfl, fun w => B47_64 ?_, fun w => B47_64 ?_⟩
      · rw [decide_eq_false (fun e => w (by rw [e])), if_neg (by decide)] at hq
        rw [nI_1]
        exact ih (n + 1) f (by omega) hf hq
      · have w := (nI_eq (by omega) (by omega)).mp w
        rw [decide_eq_true w, if_pos rfl] at hq
        obtain ⟨g1, g2⟩ := m_or n (by omega) f hf
        rw [g1, nI_1]
        exact ih (n + 1) _ (by omega) g2 hq
def rf (m p : Nat) (K : Nat → Nat) : Int32 := if p = 14 then nI m <<< (1 &&& 31) else if p = 15 then -(nI m &&& (-nI m)) else nI (wdF m p K 8 0 0)
theorem k_reach {gc : Nat → Nat} {d m p : Nat} {h : AH} {k : Int32} (hm : m < 512) (hp : p < 16) : WP gc (d + 2) 47 [.int (nI m), .int (nI p), .int k] h (fun r h' => r = some (.int (rf m p (dg k))) ∧ h' = h) := by
  unfold rf
  by_cases h1 : p = 14
  · rw [if_pos h1]
    exact M47 ⟨fun z => absurd (by rw [h1]; rfl) z, fun _ => ⟨rfl, rfl⟩⟩
  · rw [if_neg h1]
    refine M47 ⟨fun _ => B47_10 ?_, fun z => absurd ((nI_eq (b := 14) (by omega) (by omega)).mp z) h1⟩
    by_cases h2 : p = 15
    · rw [if_pos h2]
      exact ⟨fun z => absurd (by rw [h2]; rfl) z, fun _ => ⟨rfl, rfl⟩⟩
    · rw [if_neg h2]
      exact ⟨fun _ => B47_24 (wd_loop hm hp 8 0 0 rfl (by decide) ⟨rfl, rfl⟩), fun z => absurd ((nI_eq (b := 15) (by omega) (by omega)).mp z) h2⟩
def Rm (P K : Nat → Nat) (k i n : Nat) : Bool := decide (n ≤ k) && rm P K i n
theorem rmS_15 {K : Nat → Nat} {prev : Nat → Bool} {k : Nat} (hk : k < 9) : ∀ n, n ≤ k → rmS 15 K prev n = !((bt (fun n => decide (n ≤ k) && prev n)) % 2 ^ (n + 1) == 0) := by
  intro n
  induction n with
  | zero =>
    intro hn
    rw [m_low 0 (by decide) _ (bt_lt _), bt_bit _ (by decide), decide_eq_true (Nat.zero_le k)]
    show prev 0 = _
    rw [show decide (0 < 0) = false from rfl, Bool.false_and, Bool.or_false, Bool.true_and]
  | succ n ih =>
    intro hn
    rw [m_low (n + 1) (by omega) _ (bt_lt _), bt_bit _ (by omega), decide_eq_true hn, ← ih (by omega)]
    show (prev (n + 1) || rmS 15 K prev n) = _
    rw [decide_eq_true (Nat.succ_pos n), Bool.true_and, Bool.true_and]
theorem rf_eq {P K : Nat → Nat} {k i : Nat} (hk : k < 9) (hP : P i < 16) : pos k &&& rf (bt (Rm P K k i)) (P i) K = nI (bt (Rm P K k (i + 1))) := by
  unfold rf
  by_cases h1 : P i = 14
  · rw [if_pos h1, m_sh k hk _ (bt_lt _)]
    refine congrArg nI (bt_eq fun n hn => ?_)
    show _ = (decide (n ≤ k) && rmS (P i) K (rm P K i) n)
    rw [h1]
    cases n with
    | zero => rfl
    | succ n =>
      rw [Nat.add_sub_cancel, bt_bit _ (by omega), decide_eq_true (Nat.succ_pos n), Bool.true_and]
      show _ = (decide (n + 1 ≤ k) && ((true || decide (14 = K n)) && rm P K i n))
      rw [Bool.true_or, Bool.true_and]
      show (decide (n + 1 ≤ k) && (decide (n ≤ k) && rm P K i n)) = _
      by_cases hn2 : n + 1 ≤ k
      · rw [decide_eq_true hn2, decide_eq_true (show n ≤ k by omega), Bool.true_and, Bool.true_and]
      · rw [decide_eq_false hn2, Bool.false_and, Bool.false_and]
  · rw [if_neg h1]
    by_cases h2 : P i = 15
    · rw [if_pos h2, m_up k hk _ (bt_lt _)]
      refine congrArg nI (bt_eq fun n hn => ?_)
      show _ = (decide (n ≤ k) && rmS (P i) K (rm P K i) n)
      by_cases hn2 : n ≤ k
      · rw [h2, rmS_15 hk n hn2]
        rfl
      · rw [decide_eq_false hn2, Bool.false_and, Bool.false_and]
    · rw [if_neg h2]
      obtain ⟨w1, w2⟩ := wdF_bit (m := bt (Rm P K k i)) (p := P i) (K := K) 8 0 0 rfl (by decide)
      rw [m_and k hk _ w1]
      refine congrArg nI (bt_eq fun n hn => ?_)
      show _ = (decide (n ≤ k) && rmS (P i) K (rm P K i) n)
      rw [w2 n, Nat.zero_testBit, Bool.false_or]
      cases n with
      | zero =>
        show _ = (decide (0 ≤ k) && if P i = 15 then rm P K i 0 else false)
        rw [if_neg h2, decide_eq_false (show ¬ (0 < 0 ∧ 0 ≤ 8) by omega), Bool.false_and]
      | succ n =>
        show _ = (decide (n + 1 ≤ k) && if P i = 15 then _ else (decide (P i = 14) || decide (P i = K n)) && rm P K i n)
        rw [if_neg h2, decide_eq_false h1, Bool.false_or, Nat.add_sub_cancel, bt_bit _ (by omega), decide_eq_true (show 0 < n + 1 ∧ n + 1 ≤ 8 by omega), Bool.true_and]
        by_cases hn2 : n + 1 ≤ k
        · show (_ && ((decide (n ≤ k) && rm P K i n) && _)) = _
          rw [decide_eq_true hn2, decide_eq_true (show n ≤ k by omega), Bool.true_and, Bool.true_and, Bool.true_and, Bool.and_comm, show decide (K n = P i) = decide (P i = K n) from decide_eq_decide.mpr eq_comm]
        · rw [decide_eq_false hn2, Bool.false_and, Bool.false_and]
theorem match_loop {gc : Nat → Nat} {d : Nat} {h : AH} {p k : Int32} {q : PT} : ∀ n i, i + n = ct p → q (some (.int (b2i (isM p k)))) h → TT gc (d + 2) 46 q 25 [.int p, .int k, .int (nI (ct p)), .int (nI (ct k)), .int (pos (ct k)), .int (nI (bt (Rm (dg p) (dg k) (ct k) i))), .int (nI i)] [] h := by
  have hk := ct_le k
  have hp := ct_le p
  intro n
  induction n with
  | zero =>
    intro i hi hq
    have hi : i = ct p := by omega
    subst hi
    have hb := m_bit (ct k) (by omega) _ (bt_lt (Rm (dg p) (dg k) (ct k) (ct p)))
    have hr : Rm (dg p) (dg k) (ct k) (ct p) (ct k) = isM p k := by
      unfold Rm isM
      rw [decide_eq_true (Nat.le_refl _), Bool.true_and]
    rw [bt_bit _ (by omega), hr] at hb
    refine B46_25 ⟨fun _ => B46_54 ⟨fun z => B46_67 (B46_68 ⟨Or.inl rfl, ?_⟩), fun z => B46_68 ⟨Or.inr rfl, ?_⟩⟩, fun z => absurd (nI_le (Nat.le_refl _) (by omega)) z⟩
    · rw [hb] at z
      have z1 : isM p k = false := by
        cases hc : isM p k with
        | false => rfl
        | true => rw [hc] at z; exact absurd z (by decide)
      rw [z1] at hq
      exact hq
    · rw [hb] at z
      have z1 : isM p k = true := by
        cases hc : isM p k with
        | true => rfl
        | false => rw [hc] at z; exact absurd rfl z
      rw [z1] at hq
      exact hq
  | succ n ih =>
    intro i hi hq
    refine B46_25 ⟨fun z => absurd z (nI_ge (by omega) (by omega)), fun _ => ⟨_, k_itemAt (by omega), ?_⟩⟩
    rintro r h' ⟨rfl, rfl⟩
    refine ⟨_, rfl, _, k_reach (bt_lt _) (dg_lt p i), ?_⟩
    rintro r h' ⟨rfl, rfl⟩
    refine ⟨_, rfl, ?_⟩
    rw [rf_eq (by omega) (dg_lt p i), nI_1]
    exact ih (i + 1) (by omega) hq
theorem k_match {gc : Nat → Nat} {d : Nat} {h : AH} {p k : Int32} : WP gc (d + 3) 46 [.int p, .int k] h (fun r h' => r = some (.int (b2i (isM p k))) ∧ h' = h) := by
  refine M46 ⟨_, k_count, ?_⟩
  rintro r h' ⟨rfl, rfl⟩
  refine ⟨_, rfl, _, k_count, ?_⟩
  rintro r h' ⟨rfl, rfl⟩
  refine ⟨_, rfl, ?_⟩
  have h1 : (1 : Int32) = nI (bt (Rm (dg p) (dg k) (ct k) 0)) := by
    have : bt (Rm (dg p) (dg k) (ct k) 0) = bt (fun n => n == 0) := bt_eq (fun n _ => by
      unfold Rm
      show (decide (n ≤ ct k) && (n == 0)) = _
      cases n with
      | zero => rfl
      | succ n => rw [show (n + 1 == 0) = false from rfl, Bool.and_false])
    rw [this]
    decide
  have h2 := match_loop (gc := gc) (d := d) (h := h') (p := p) (k := k) (q := fun r h2 => r = some (.int (b2i (isM p k))) ∧ h2 = h') (ct p) 0 (by omega) ⟨rfl, rfl⟩
  rw [← h1] at h2
  unfold pos at h2
  exact h2
end
section
/-! what the calls do: put, route, letters -/
abbrev St : Type := (Nat → Int32) × Mu
def mKey (m : Msg) : Int32 := m.2.1
def mHops (m : Msg) : Int32 := m.2.2.1
def mPers (m : Msg) : Bool := m.2.2.2
def hopM (m : Msg) : Msg := (m.1, m.2.1, m.2.2.1 + 1, m.2.2.2)
def rW (r : Rec) : Rec := (rM r, rRet r, rQ r, rP r, rT r, -1)
/-- does a binding choose queue q -/
def chB (ty : Int32) (e q : Nat) (key : Int32) (b : Bnd) : Bool := decide (b.1 = nI e) && (decide (b.2.1 = nI q) && (decide (ty = 1) || (decide (b.2.2 = key) || (decide (ty = 2) && isM b.2.2 key))))
def isCh (s : St) (e q : Nat) (key : Int32) : Bool := (uB s.2 0).any (chB (s.1 (101 + 10 * e)) e q key)
/-- where a copy with place p goes in -/
def ipos (p : Int32) (ys : List Rec) : Nat → Nat
  | 0 => 0
  | n + 1 => match ys[n]? with
    | none => ipos p ys n
    | some y => if rP y ≤ p then n + 1 else ipos p ys n
def insR (ys : List Rec) (r : Rec) : List Rec := insG ys (ipos (rP r) ys ys.length) r
def mkR (m : Msg) (q : Nat) (p : Int32) : Rec := (m, false, nI q, p, 0, -1)
def shN : Nat → Nat → Mu → Mu
  | 0, _, v => v
  | n + 1, q, v => match uC v (2 + q) with
    | [] => v
    | r :: W => shN n q (upC (upC v (2 + q) W) 1 (uC v 1 ++ [r]))
def lim (I : Nat → Int32) (q : Nat) : Nat := (I (201 + 10 * q)).toNatClampNeg
def putI (v : Mu) (q : Nat) (r : Rec) : Mu := upC v (2 + q) (insR (uC v (2 + q)) r)
def opPut (s : St) (q : Nat) (m : Msg) : St := (upd s.1 0 (s.1 0 + 1), shN ((uC s.2 (2 + q)).length + 1 - lim s.1 q) q (putI s.2 q (mkR m q (s.1 0 + 1))))
def rtF (e : Nat) (m : Msg) : Nat → Nat → St → St
  | 0, _, s => s
  | n + 1, q, s => rtF e m n (q + 1) (if isCh s e q (mKey m) then opPut s q m else s)
def opRt (s : St) (e : Nat) (m : Msg) : St := rtF e m 6 0 s
/-- the exchange that a letter goes on to -/
def dead (I : Nat → Int32) (r : Rec) : Int32 := I (202 + 10 * (rQ r).toNatClampNeg)
def goOn (I : Nat → Int32) (r : Rec) : Bool := isEx I (dead I r) && decide (¬ 3 ≤ mHops (rM r))
/-- letters from i on, n steps at most; k have been routed -/
def rlF : Nat → Nat → Nat → St → Nat × St
  | 0, _, k, s => (k, s)
  | n + 1, i, k, s => match (uC s.2 1)[i]? with
    | none => (k, s)
    | some r => if decide (k < 3) && goOn s.1 r then rlF n (i + 1) (k + 1) (opRt s (dead s.1 r).toNatClampNeg (hopM (rM r))) else rlF n (i + 1) k (upd s.1 2 (s.1 2 + 1), s.2)
def opRl (s : St) : St := (fun t : Nat × St => (upd t.2.1 1 (t.2.1 1 + nI t.1), upC t.2.2 1 [])) (rlF 450 0 0 s)
/-! bounds -/
def pq (q : Nat) (r : Rec) : Bool := decide (rQ r = nI q)
def hq (v : Mu) (q : Nat) : Nat := sumTo (fun c => (uC v (14 + c)).countP (pq q)) 4
def sw (v : Mu) : Nat := sumTo (fun q => (uC v (2 + q)).length) 6
def sh (v : Mu) : Nat := sumTo (fun c => (uC v (14 + c)).length) 4
def LB (v : Mu) (b : Nat) : Prop := (∀ c, c < 4 → (uC v (14 + c)).length ≤ 12) ∧ (∀ q, q < 6 → (uC v (2 + q)).length + hq v q ≤ 60) ∧ (uC v 1).length + sw v + sh v ≤ b
theorem sumTo_cg {f g : Nat → Nat} : ∀ n, (∀ i, i < n → f i = g i) → sumTo f n = sumTo g n := by
  intro n
  induction n with
  | zero => intro _; rfl
  | succ n ih => intro h; show sumTo f n + f n = sumTo g n + g n; rw [ih (fun i hi => h i (by omega)), h n (by omega)]
theorem sumTo_le2 {f g : Nat → Nat} : ∀ n, (∀ i, i < n → f i ≤ g i) → sumTo f n ≤ sumTo g n := by
  intro n
  induction n with
  | zero => intro _; exact Nat.le_refl _
  | succ n ih => intro h; show sumTo f n + f n ≤ sumTo g n + g n; have := ih (fun i hi => h i (by omega)); have := h n (by omega); omega
theorem sumTo_at {f : Nat → Nat} {i : Nat} : ∀ n, i < n → f i ≤ sumTo f n := by
  intro n
  induction n with
  | zero => intro h; omega
  | succ n ih =>
    intro h
    show f i ≤ sumTo f n + f n
    by_cases hi : i = n
    · subst hi; omega
    · have := ih (by omega); omega
/-- a sum over lists, one of which changes -/
theorem sum_up {α : Type} {f : Nat → List α} {g : List α → Nat} {o i n : Nat} {l : List α} (hi : i < n) : sumTo (fun j => g (va_up f (o + i) l (o + j))) n + g (f (o + i)) = sumTo (fun j => g (f (o + j))) n + g l := by
  have h1 : (fun j => g (va_up f (o + i) l (o + j))) = va_up (fun j => g (f (o + j))) i (g l) := by
    funext j
    by_cases hj : j = i
    · subst hj; rw [va_up_self, va_up_self]
    · rw [va_up_ne _ _ (by omega), va_up_ne _ _ hj]
  rw [h1]
  exact (sumTo_up (f := fun j => g (f (o + j))) n).1 hi
theorem sum_ot {α : Type} {f : Nat → List α} {g : List α → Nat} {o k n : Nat} {l : List α} (hi : ∀ j, j < n → o + j ≠ k) : sumTo (fun j => g (va_up f k l (o + j))) n = sumTo (fun j => g (f (o + j))) n := sumTo_cg n (fun j hj => by rw [va_up_ne _ _ (hi j hj)])
theorem hq_le {v : Mu} {b q : Nat} (h : LB v b) : hq v q ≤ sh v ∧ sh v ≤ 48 := by
  refine ⟨sumTo_le2 4 (fun c _ => List.countP_le_length), ?_⟩
  have := sumTo_le (f := fun c => (uC v (14 + c)).length) (b := 12) 4 (fun c hc => h.1 c hc)
  unfold sh
  omega
theorem LB.w {v : Mu} {b q : Nat} (h : LB v b) (hq6 : q < 6) : (uC v (2 + q)).length ≤ 60 := by
  have := h.2.1 q hq6
  omega
theorem LB.l {v : Mu} {b : Nat} (h : LB v b) {q : Nat} (hq6 : q < 6) : (uC v 1).length + (uC v (2 + q)).length ≤ b := by
  have h1 := h.2.2
  have : (uC v (2 + q)).length ≤ sw v := sumTo_at (f := fun q => (uC v (2 + q)).length) 6 hq6
  omega
theorem LB.mono {v : Mu} {b c : Nat} (h : LB v b) (hc : b ≤ c) : LB v c := ⟨h.1, h.2.1, Nat.le_trans h.2.2 hc⟩
/-- waiting and letters change -/
theorem LB.upW {v : Mu} {b c q : Nat} {W L : List Rec} (h : LB v b) (hq6 : q < 6) (h1 : W.length + hq v q ≤ 60) (h2 : L.length + W.length + b ≤ (uC v 1).length + (uC v (2 + q)).length + c) : LB (upC (upC v (2 + q) W) 1 L) c := by
  have ew : ∀ p, p < 6 → uC (upC (upC v (2 + q) W) 1 L) (2 + p) = if p = q then W else uC v (2 + p) := fun p hp => by
    rw [uC_n (by omega)]
    by_cases hz : p = q
    · subst hz; rw [uC_s, if_pos rfl]
    · rw [uC_n (by omega), if_neg hz]
  have eh : ∀ c, c < 4 → uC (upC (upC v (2 + q) W) 1 L) (14 + c) = uC v (14 + c) := fun c hc => by rw [uC_n (by omega), uC_n (by omega)]
  have ehq : ∀ p, hq (upC (upC v (2 + q) W) 1 L) p = hq v p := fun p => sumTo_cg 4 (fun c hc => by rw [eh c hc])
  have esh : sh (upC (upC v (2 + q) W) 1 L) = sh v := sumTo_cg 4 (fun c hc => by rw [eh c hc])
  have esw : sw (upC (upC v (2 + q) W) 1 L) + (uC v (2 + q)).length = sw v + W.length := by
    have h0 : sw (upC (upC v (2 + q) W) 1 L) = sw (upC v (2 + q) W) := sumTo_cg 6 (fun p hp => by rw [uC_n (by omega)])
    rw [h0]
    exact sum_up (f := v.2.1) (g := List.length) (o := 2) hq6
  refine ⟨fun c hc => by rw [eh c hc]; exact h.1 c hc, fun p hp => ?_, ?_⟩
  · rw [ew p hp, ehq]
    split
    · rename_i hz; subst hz; exact h1
    · exact h.2.1 p hp
  · rw [uC_s, esh]
    have := h.2.2
    omega
theorem insG_len {α : Type} {ys : List α} {i : Nat} {y : α} : (insG ys i y).length = ys.length + 1 := by
  unfold insG
  rw [List.length_append, List.length_cons, List.length_take, List.length_drop]
  omega
theorem insR_len {ys : List Rec} {r : Rec} : (insR ys r).length = ys.length + 1 := insG_len
theorem ipos_le {p : Int32} {ys : List Rec} : ∀ n, ipos p ys n ≤ n := by
  intro n
  induction n with
  | zero => exact Nat.le_refl _
  | succ n ih =>
    unfold ipos
    split
    · omega
    · split <;> omega
theorem upC_cm {v : Mu} {k j : Nat} {a b : List Rec} (h : k ≠ j) : upC (upC v k a) j b = upC (upC v j b) k a := by
  unfold upC
  have : va_up (va_up v.2.1 k a) j b = va_up (va_up v.2.1 j b) k a := by
    funext i
    by_cases h1 : i = j
    · subst h1; rw [va_up_self, va_up_ne _ _ (Ne.symm h), va_up_self]
    · by_cases h2 : i = k
      · subst h2; rw [va_up_ne _ _ h, va_up_self, va_up_self]
      · rw [va_up_ne _ _ h1, va_up_ne _ _ h2, va_up_ne _ _ h2, va_up_ne _ _ h1]
  rw [this]
theorem upC_id {v : Mu} {k : Nat} : upC v k (uC v k) = v := by
  unfold upC uC
  have : va_up v.2.1 k (v.2.1 k) = v.2.1 := by
    funext i
    by_cases h1 : i = k
    · subst h1; rw [va_up_self]
    · rw [va_up_ne _ _ h1]
  rw [this]
theorem shN_eq {q : Nat} : ∀ (n : Nat) (v : Mu), n ≤ (uC v (2 + q)).length → shN n q v = upC (upC v (2 + q) ((uC v (2 + q)).drop n)) 1 (uC v 1 ++ (uC v (2 + q)).take n) := by
  intro n
  induction n with
  | zero =>
    intro v _
    show v = _
    rw [List.drop_zero, List.take_zero, List.append_nil, upC_id, upC_id]
  | succ n ih =>
    intro v hn
    unfold shN
    cases hW : uC v (2 + q) with
    | nil => rw [hW] at hn; cases hn
    | cons r W =>
      dsimp only
      rw [hW] at hn
      have e1 : uC (upC (upC v (2 + q) W) 1 (uC v 1 ++ [r])) (2 + q) = W := by rw [uC_n (by omega), uC_s]
      rw [ih _ (by rw [e1]; exact Nat.le_of_succ_le_succ hn), e1, uC_s, upC_cm (k := 1) (j := 2 + q) (by omega), upC_upC, upC_upC, List.drop_succ_cons, List.take_succ_cons, List.append_assoc]
      rfl
theorem LB.put {s : St} {b q : Nat} {m : Msg} (h : LB s.2 b) (hq6 : q < 6) (hl : lim s.1 q ≤ 12) : LB (opPut s q m).2 (b + 1) := by
  unfold opPut
  dsimp only
  have hp : uC (putI s.2 q (mkR m q (s.1 0 + 1))) (2 + q) = insR (uC s.2 (2 + q)) (mkR m q (s.1 0 + 1)) := uC_s
  have hp1 : uC (putI s.2 q (mkR m q (s.1 0 + 1))) 1 = uC s.2 1 := uC_n (by omega)
  rw [shN_eq _ _ (by rw [hp, insR_len]; omega), hp, hp1]
  unfold putI
  rw [upC_upC]
  have g := hq_le (q := q) h
  have g2 := h.2.1 q hq6
  refine h.upW hq6 ?_ ?_
  · rw [List.length_drop, insR_len]
    omega
  · rw [List.length_drop, List.length_append, List.length_take, insR_len]
    omega
/-- the queues' numbers are what they may be -/
def NOK (I : Nat → Int32) : Prop := ∀ q, q < 6 → ∃ l, I (201 + 10 * q) = nI l ∧ 1 ≤ l ∧ l ≤ 12
theorem NOK.lm {I : Nat → Int32} (h : NOK I) {q : Nat} (hq6 : q < 6) : lim I q ≤ 12 := by
  obtain ⟨l, h1, h2, h3⟩ := h q hq6
  unfold lim
  rw [h1, nI_clamp (by omega)]
  exact h3
/-- only lastPlace, waiting copies and letters differ -/
def Sm (s t : St) : Prop := (∀ j, 1 ≤ j → t.1 j = s.1 j) ∧ t.2.1 = s.2.1 ∧ t.2.2.2 = s.2.2.2 ∧ ∀ c, c < 4 → uC t.2 (14 + c) = uC s.2 (14 + c)
theorem Sm.refl (s : St) : Sm s s := ⟨fun _ _ => rfl, rfl, rfl, fun _ _ => rfl⟩
theorem Sm.trans {s t u : St} (h1 : Sm s t) (h2 : Sm t u) : Sm s u := ⟨fun j hj => (h2.1 j hj).trans (h1.1 j hj), h2.2.1.trans h1.2.1, h2.2.2.1.trans h1.2.2.1, fun c hc => (h2.2.2.2 c hc).trans (h1.2.2.2 c hc)⟩
theorem Sm.nok {s t : St} (h : Sm s t) (hn : NOK s.1) : NOK t.1 := fun q hq6 => by
  rw [h.1 _ (by omega)]
  exact hn q hq6
theorem Sm.put {s : St} {q : Nat} {m : Msg} (hq6 : q < 6) : Sm s (opPut s q m) := by
  have hp : uC (putI s.2 q (mkR m q (s.1 0 + 1))) (2 + q) = insR (uC s.2 (2 + q)) (mkR m q (s.1 0 + 1)) := uC_s
  unfold opPut
  rw [shN_eq _ _ (by rw [hp, insR_len]; omega)]
  refine ⟨fun j hj => pk_un (by omega), rfl, rfl, fun c hc => ?_⟩
  rw [uC_n (by omega), uC_n (by omega)]
  exact uC_n (by omega)
theorem Sm.rt {e : Nat} {m : Msg} : ∀ n q (s : St), q + n ≤ 6 → Sm s (rtF e m n q s) := by
  intro n
  induction n with
  | zero => intro q s _; exact Sm.refl s
  | succ n ih =>
    intro q s hq6
    show Sm s (rtF e m n (q + 1) (if isCh s e q (mKey m) then opPut s q m else s))
    refine Sm.trans ?_ (ih (q + 1) _ (by omega))
    split
    · exact Sm.put (by omega)
    · exact Sm.refl s
theorem LB.rt {e : Nat} {m : Msg} : ∀ n q (s : St) b, q + n ≤ 6 → NOK s.1 → LB s.2 b → LB (rtF e m n q s).2 (b + n) := by
  intro n
  induction n with
  | zero => intro q s b _ _ h; exact h
  | succ n ih =>
    intro q s b hq6 hl h
    show LB (rtF e m n (q + 1) (if isCh s e q (mKey m) then opPut s q m else s)).2 (b + (n + 1))
    rw [show b + (n + 1) = b + 1 + n by omega]
    refine ih (q + 1) _ (b + 1) (by omega) ?_ ?_
    · split
      · exact (Sm.put (by omega)).nok hl
      · exact hl
    · split
      · exact h.put (by omega) (hl.lm (by omega))
      · exact h.mono (by omega)
/-- what the copies say of their queues -/
def CQ (v : Mu) : Prop := (∀ k, isC k → ∀ r, r ∈ uC v k → ∃ q, q < 6 ∧ rQ r = nI q) ∧ ∀ q, q < 6 → ∀ r, r ∈ uC v (2 + q) → rQ r = nI q
theorem mem_insG {α : Type} {ys : List α} {i : Nat} {y x : α} (h : x ∈ insG ys i y) : x = y ∨ x ∈ ys := by
  unfold insG at h
  rcases List.mem_append.mp h with h | h
  · exact Or.inr (List.mem_of_mem_take h)
  · rcases List.mem_cons.mp h with h | h
    · exact Or.inl h
    · exact Or.inr (List.mem_of_mem_drop h)
/-- a list whose copies come from elsewhere -/
theorem CQ.up {v : Mu} (h : CQ v) {k : Nat} {l : List Rec} (h1 : ∀ r, r ∈ l → ∃ q, q < 6 ∧ rQ r = nI q) (h2 : ∀ q, q < 6 → k = 2 + q → ∀ r, r ∈ l → rQ r = nI q) : CQ (upC v k l) := by
  refine ⟨fun j hj r hr => ?_, fun q hq6 r hr => ?_⟩
  · by_cases hz : j = k
    · subst hz; rw [uC_s] at hr; exact h1 r hr
    · rw [uC_n hz] at hr; exact h.1 j hj r hr
  · by_cases hz : 2 + q = k
    · subst hz; rw [uC_s] at hr; exact h2 q hq6 rfl r hr
    · rw [uC_n hz] at hr; exact h.2 q hq6 r hr
theorem CQ.put {s : St} {q : Nat} {m : Msg} (h : CQ s.2) (hq6 : q < 6) : CQ (opPut s q m).2 := by
  have hp : uC (putI s.2 q (mkR m q (s.1 0 + 1))) (2 + q) = insR (uC s.2 (2 + q)) (mkR m q (s.1 0 + 1)) := uC_s
  have hp1 : uC (putI s.2 q (mkR m q (s.1 0 + 1))) 1 = uC s.2 1 := uC_n (by omega)
  have hi : ∀ r, r ∈ insR (uC s.2 (2 + q)) (mkR m q (s.1 0 + 1)) → rQ r = nI q := fun r hr => by
    rcases mem_insG hr with rfl | hr
    · rfl
    · exact h.2 q hq6 r hr
  unfold opPut
  dsimp only
  rw [shN_eq _ _ (by rw [hp, insR_len]; omega), hp, hp1]
  unfold putI
  rw [upC_upC]
  refine CQ.up (CQ.up h (fun r hr => ⟨q, hq6, hi r (List.mem_of_mem_drop hr)⟩) (fun p hp6 e r hr => ?_)) (fun r hr => ?_) (fun p hp6 e => by omega)
  · rw [show p = q by omega]
    exact hi r (List.mem_of_mem_drop hr)
  · rcases List.mem_append.mp hr with hr | hr
    · exact h.1 1 (by unfold isC; omega) r hr
    · exact ⟨q, hq6, hi r (List.mem_of_mem_take hr)⟩
theorem CQ.rt {e : Nat} {m : Msg} : ∀ n q (s : St), q + n ≤ 6 → CQ s.2 → CQ (rtF e m n q s).2 := by
  intro n
  induction n with
  | zero => intro q s _ h; exact h
  | succ n ih =>
    intro q s hq6 h
    show CQ (rtF e m n (q + 1) (if isCh s e q (mKey m) then opPut s q m else s)).2
    refine ih (q + 1) _ (by omega) ?_
    split
    · exact h.put (by omega)
    · exact h
end
section
/-! isChosen, countChosen, insert, put, route -/
theorem chosen_loop {gc : Nat → Nat} {d : Nat} {h : AH} {A : Nat → Nat} {I : Nat → Int32} {xs ys : Nat → List Nat} {v : Mu} {F : Nat} {q : PT} {e w : Nat} {key : Int32} (hR : RX gc h A I xs ys v F) (hl : (uB v 0).length ≤ 64) : ∀ n i v6, i + n = (uB v 0).length → q (some (.int (b2i (((uB v 0).drop i).any (chB (I (101 + 10 * e)) e w key))))) h → TT gc (d + 3) 45 q 14 [.ref (A 0), .int (nI e), .int (nI w), .int key, .int (I (101 + 10 * e)), .int (nI i), v6] [] h := by
  have hF := hR.rf
  have hb : isB 0 := rfl
  intro n
  induction n with
  | zero =>
    intro i v6 hi hq
    refine B45_14 ⟨_, _, hF.2.1, rfl, hR.lst (k := 0) (by decide), _, rx_sizeB hR hb (hR.xB hb), ?_⟩
    rintro r h' ⟨rfl, rfl⟩
    refine ⟨_, rfl, fun _ => B45_99 ⟨Or.inl rfl, ?_⟩, fun z => absurd (nI_le (by omega) (by omega)) z⟩
    rw [List.drop_eq_nil_of_le (by omega)] at hq
    exact hq
  | succ n ih =>
    intro i v6 hi hq
    have hil : i < (uB v 0).length := by omega
    refine B45_14 ⟨_, _, hF.2.1, rfl, hR.lst (k := 0) (by decide), _, rx_sizeB hR hb (hR.xB hb), ?_⟩
    rintro r h' ⟨rfl, rfl⟩
    refine ⟨_, rfl, fun z => absurd z (nI_ge hil (by omega)), fun _ => ⟨_, _, hF.2.1, rfl, hR.lst (k := 0) (by decide), _, rx_getB hR hb (hR.xB hb) hil, ?_⟩⟩
    rintro r h2 ⟨a, rfl, rfl, -, ha⟩
    rw [List.drop_eq_getElem_cons hil, List.any_cons] at hq
    generalize hy : (uB v 0)[i] = y at ha hq
    have nx : chB (I (101 + 10 * e)) e w key y = false → TT gc (d + 3) 45 q 93 [.ref (A 0), .int (nI e), .int (nI w), .int key, .int (I (101 + 10 * e)), .int (nI i), .ref a] [] h2 := fun hz => by
      rw [hz, Bool.false_or] at hq
      refine B45_93 ?_
      rw [nI_1]
      exact ih (i + 1) _ (by omega) hq
    have ye : chB (I (101 + 10 * e)) e w key y = true → TT gc (d + 3) 45 q 91 [.ref (A 0), .int (nI e), .int (nI w), .int key, .int (I (101 + 10 * e)), .int (nI i), .ref a] [] h2 := fun hz => by
      rw [hz, Bool.true_or] at hq
      exact B45_91 ⟨Or.inr rfl, hq⟩
    unfold chB at nx ye
    refine ⟨a, rfl, _, ha, _, _, ha, rfl, fun z => nx ?_, fun z1 => ⟨_, _, ha, rfl, fun z => nx ?_, fun z2 => ⟨fun z3 => ye ?_, fun z3 => ⟨_, _, ha, rfl, fun z4 => ye ?_, fun z4 => ⟨fun z5 => nx ?_, fun z5 => ⟨_, _, ha, rfl, _, k_match, ?_⟩⟩⟩⟩⟩⟩
    · rw [decide_eq_false z, Bool.false_and]
    · rw [decide_eq_false z, Bool.false_and, Bool.and_false]
    · rw [decide_eq_true z1, decide_eq_true z2, decide_eq_true z3]; rfl
    · rw [decide_eq_true z1, decide_eq_true z2, decide_eq_true z4, Bool.true_or, Bool.or_true]; rfl
    · rw [decide_eq_false z3, decide_eq_false z4, decide_eq_false z5, Bool.false_and, Bool.false_or, Bool.false_or, Bool.and_false, Bool.and_false]
    · rintro r h3 ⟨rfl, rfl⟩
      rw [decide_eq_true z1, decide_eq_true z2, decide_eq_false z3, decide_eq_false z4, decide_eq_true z5, Bool.false_or, Bool.false_or, Bool.true_and, Bool.true_and, Bool.true_and] at nx ye
      exact ⟨_, rfl, fun z => nx (b2i_z.mp z), fun z => ye (b2i_nz z)⟩
theorem k_isCh {gc : Nat → Nat} {d : Nat} {h : AH} {A : Nat → Nat} {I : Nat → Int32} {xs ys : Nat → List Nat} {v : Mu} {F : Nat} {e w : Nat} {key : Int32} (hR : RX gc h A I xs ys v F) (he : e < 5) (hl : (uB v 0).length ≤ 64) : WP gc (d + 4) 45 [.ref (A 0), .int (nI e), .int (nI w), .int key] h (fun r h' => r = some (.int (b2i (isCh (I, v) e w key))) ∧ h' = h) := by
  have hF := hR.rf
  obtain ⟨t, vs, g1, g2, g3, g4⟩ := hF.exA he
  exact M45 ⟨_, _, hF.2.1, rfl, t, vs, _, g1, g2, g3, g4, _, _, hF.2.2.2.2.2.1 e he, rfl, chosen_loop hR hl (uB v 0).length 0 _ (by omega) ⟨rfl, rfl⟩⟩
def ccF (s : St) (e : Nat) (key : Int32) : Nat → Nat → Nat
  | 0, _ => 0
  | n + 1, q => (isCh s e q key).toNat + ccF s e key n (q + 1)
theorem cc_le {s : St} {e : Nat} {key : Int32} : ∀ n q, ccF s e key n q ≤ n := by
  intro n
  induction n with
  | zero => intro q; exact Nat.le_refl _
  | succ n ih =>
    intro q
    have := ih (q + 1)
    have h2 : (isCh s e q key).toNat ≤ 1 := by cases isCh s e q key <;> decide
    show (isCh s e q key).toNat + ccF s e key n (q + 1) ≤ n + 1
    omega
theorem cc_loop {gc : Nat → Nat} {d : Nat} {h : AH} {A : Nat → Nat} {I : Nat → Int32} {xs ys : Nat → List Nat} {v : Mu} {F : Nat} {q : PT} {e : Nat} {key : Int32} (hR : RX gc h A I xs ys v F) (he : e < 5) (hl : (uB v 0).length ≤ 64) : ∀ n w c, w + n = 6 → c ≤ w → q (some (.int (nI (c + ccF (I, v) e key n w)))) h → TT gc (d + 4) 44 q 5 [.ref (A 0), .int (nI e), .int key, .int (nI c), .int (nI w)] [] h := by
  intro n
  induction n with
  | zero =>
    intro w c hw hc hq
    exact B44_5 ⟨fun _ => B44_32 hq, fun z => absurd (show (6 : Int32) ≤ nI w from nI_le (a := 6) (by omega) (by omega)) z⟩
  | succ n ih =>
    intro w c hw hc hq
    have hq : q (some (.int (nI (c + ((isCh (I, v) e w key).toNat + ccF (I, v) e key n (w + 1)))))) h := hq
    refine B44_5 ⟨fun z => absurd z (show ¬ (6 : Int32) ≤ nI w from nI_ge (b := 6) (by omega) (by decide)), fun _ => ⟨⟨_, hR.rf.2.1⟩, _, k_isCh hR he hl, ?_⟩⟩
    rintro r h' ⟨rfl, rfl⟩
    refine ⟨_, rfl, fun z => B44_26 ?_, fun z => B44_26 ?_⟩
    · rw [b2i_z.mp z] at hq
      rw [nI_1]
      refine ih (w + 1) c (by omega) (by omega) ?_
      rw [show c + ccF (I, v) e key n (w + 1) = c + (false.toNat + ccF (I, v) e key n (w + 1)) from by show _ = c + (0 + _); omega]
      exact hq
    · rw [b2i_nz z] at hq
      rw [nI_1, nI_1]
      refine ih (w + 1) (c + 1) (by omega) (by omega) ?_
      rw [show c + 1 + ccF (I, v) e key n (w + 1) = c + (true.toNat + ccF (I, v) e key n (w + 1)) from by show _ = c + (1 + _); omega]
      exact hq
theorem k_cc {gc : Nat → Nat} {d : Nat} {h : AH} {A : Nat → Nat} {I : Nat → Int32} {xs ys : Nat → List Nat} {v : Mu} {F : Nat} {e : Nat} {key : Int32} (hR : RX gc h A I xs ys v F) (he : e < 5) (hl : (uB v 0).length ≤ 64) : WP gc (d + 5) 44 [.ref (A 0), .int (nI e), .int key] h (fun r h' => r = some (.int (nI (ccF (I, v) e key 6 0))) ∧ h' = h) :=
  M44 (cc_loop hR he hl 6 0 0 rfl (Nat.le_refl _) ⟨by rw [Nat.zero_add], rfl⟩)
/-! insert -/
theorem CpAt.toW {k j : Nat} {h : AH} {a : Nat} {r : Rec} (hc : CpAt k h a r) (hj : j < 14) : CpAt j h a (rW r) := by
  obtain ⟨m, D, h1, -, h3⟩ := hc
  exact ⟨m, D, h1, fun z => by omega, h3⟩
theorem ins_loop {gc : Nat → Nat} {d : Nat} {h : AH} {A : Nat → Nat} {I : Nat → Int32} {xs ys : Nat → List Nat} {v : Mu} {F : Nat} {q : PT} {e a : Nat} {r : Rec} (hR : RX gc h A I xs ys v F) (he : e < 6) (hl : (uC v (2 + e)).length ≤ 65) (ha : CpAt (2 + e) h a r) (hf : free ys a) (hq : ∀ h', RX gc h' A I (va_up xs (2 + e) (ins (xs (2 + e)) (ipos (rP r) (uC v (2 + e)) (uC v (2 + e)).length) a)) (va_up ys (2 + e) (ins (ys (2 + e)) (ipos (rP r) (uC v (2 + e)) (uC v (2 + e)).length) a)) (upC v (2 + e) (insR (uC v (2 + e)) r)) F → KL h h' → q none h') : ∀ n, n ≤ (uC v (2 + e)).length → ipos (rP r) (uC v (2 + e)) n = ipos (rP r) (uC v (2 + e)) (uC v (2 + e)).length → TT gc (d + 5) 51 q 8 [.ref (A (20 + e)), .ref a, .int (nI n)] [] h := by
  have hk := isC_q he
  have hx := hR.xL (k := 2 + e) (by omega)
  have hqu := hR.rf.quO he
  have fin : ∀ n, n ≤ (uC v (2 + e)).length → n = ipos (rP r) (uC v (2 + e)) (uC v (2 + e)).length → TT gc (d + 5) 51 q 41 [.ref (A (20 + e)), .ref a, .int (nI n)] [] h := fun n hn hz => by
    refine B51_41 ⟨_, _, hqu, rfl, hR.lst (lt_C hk), _, rx_insC hR hk hx hn (by rw [if_neg (by omega)]; omega) ha hf, ?_⟩
    rintro r' h' ⟨rfl, q1, q2⟩
    subst hz
    exact ⟨rfl, hq h' q1 q2⟩
  intro n
  induction n with
  | zero =>
    intro hn hz
    exact B51_8 ⟨fun _ => fin 0 hn hz, fun z => absurd (show nI 0 ≤ 0 by decide) z⟩
  | succ n ih =>
    intro hn hz
    have hg := rx_getC (d := d + 2) (j := n) hR hk hx (by omega)
    rw [← nI_pred n] at hg
    refine B51_8 ⟨fun z => absurd z (nI_nle (by omega) (by omega)), fun _ => ⟨_, _, hqu, rfl, hR.lst (lt_C hk), _, hg, ?_⟩⟩
    rintro r' h' ⟨a2, rfl, rfl, -, ha2⟩
    obtain ⟨m2, D2, w1, -, -⟩ := ha2
    obtain ⟨m, D, w2, w3, w4⟩ := ha
    have hi : ipos (rP r) (uC v (2 + e)) (n + 1) = if rP (uC v (2 + e))[n] ≤ rP r then n + 1 else ipos (rP r) (uC v (2 + e)) n := by
      rw [show ipos (rP r) (uC v (2 + e)) (n + 1) = (match (uC v (2 + e))[n]? with | none => ipos (rP r) (uC v (2 + e)) n | some y => if rP y ≤ rP r then n + 1 else ipos (rP r) (uC v (2 + e)) n) from rfl, List.getElem?_eq_getElem (by omega)]
    refine ⟨_, rfl, _, w1, _, _, w1, rfl, _, _, w2, rfl, fun z => fin (n + 1) hn ?_, fun z => ?_⟩
    · rw [← hz, hi, if_pos z]
    · rw [pk_m1]
      refine ih (by omega) ?_
      rw [← hz, hi, if_neg z]
theorem k_insQ {gc : Nat → Nat} {d : Nat} {h : AH} {A : Nat → Nat} {I : Nat → Int32} {xs ys : Nat → List Nat} {v : Mu} {F : Nat} {e a : Nat} {r : Rec} (hR : RX gc h A I xs ys v F) (he : e < 6) (hl : (uC v (2 + e)).length ≤ 65) (ha : CpAt (2 + e) h a r) (hf : free ys a) : WP gc (d + 6) 51 [.ref (A (20 + e)), .ref a] h (fun r' h' => r' = none ∧ RX gc h' A I (va_up xs (2 + e) (ins (xs (2 + e)) (ipos (rP r) (uC v (2 + e)) (uC v (2 + e)).length) a)) (va_up ys (2 + e) (ins (ys (2 + e)) (ipos (rP r) (uC v (2 + e)) (uC v (2 + e)).length) a)) (upC v (2 + e) (insR (uC v (2 + e)) r)) F ∧ KL h h') := by
  refine M51 ⟨_, _, hR.rf.quO he, rfl, hR.lst (lt_C (isC_q he)), _, rx_sizeC hR (isC_q he) (hR.xL (by omega)), ?_⟩
  rintro r' h' ⟨rfl, rfl⟩
  exact ⟨_, rfl, ins_loop hR he hl ha hf (fun h' q1 q2 => ⟨rfl, q1, q2⟩) _ (Nat.le_refl _) rfl⟩
/-! put -/
def KM (h h' : AH) : Prop := ∀ (b : Nat) (vs : List Value), at_ h b 7 vs → at_ h' b 7 vs
theorem KM.trans {h h' h'' : AH} (h1 : KM h h') (h2 : KM h' h'') : KM h h'' := fun b vs hb => h2 b vs (h1 b vs hb)
theorem KO.km {h h' : AH} (h1 : KO h h') : KM h h' := fun b vs hb => h1 b 7 vs (by omega) hb
theorem KL.km {h h' : AH} (h1 : KL h h') : KM h h' := h1.ko.km
theorem sub_le0 {a b : Nat} (hb : b < 2 ^ 30) (h : a ≤ b) : nI a - nI b ≤ 0 := by
  by_cases hz : a = b
  · subst hz
    rw [pk_sub (Nat.le_refl _), Nat.sub_self]
    decide
  · have := pk_sneg hb (show a < b by omega)
    exact Int32.le_of_lt this
theorem put_loop {gc : Nat → Nat} {d : Nat} {A : Nat → Nat} {I : Nat → Int32} {q : PT} {e F : Nat} {x1 : Int32} {a2 : Nat} (he : e < 6) : ∀ n (h : AH) (v : Mu), RC gc h A I v F → n ≤ (uC v (2 + e)).length → (uC v 1).length + n ≤ 449 → (∀ h', RC gc h' A I (shN n e v) F → KL h h' → q none h') → TT gc (d + 6) 49 q 48 [.ref (A 0), .int x1, .ref a2, .ref (A (20 + e)), .int (nI n)] [] h := by
  intro n
  induction n with
  | zero =>
    intro h v hR _ _ hq
    exact B49_48 ⟨fun _ => B49_78 (hq h hR KL.refl), fun z => absurd (show nI 0 ≤ 0 by decide) z⟩
  | succ n ih =>
    intro h v hR hn hl hq
    obtain ⟨xs, hX⟩ := hR
    have hF := hX.rf
    have hk := isC_q he
    cases hW : uC v (2 + e) with
    | nil => rw [hW] at hn; cases hn
    | cons r W =>
      refine B49_48 ⟨fun z => absurd z (nI_nle (by omega) (by omega)), fun _ => ⟨_, _, hF.2.1, rfl, _, _, hF.quO he, rfl, hX.lst (lt_C hk), _, rx_rmC (j := 0) hX hk rfl (by rw [hW]; exact Nat.succ_pos _), ?_⟩⟩
      rintro r' h1 ⟨a, rfl, y1, y2, y3, ha⟩
      have hfr := (hX.2.2.1.er hk y3).2
      have eh : (uC v (2 + e))[0]'(by rw [hW]; exact Nat.succ_pos _) = r := by simp only [hW, List.getElem_cons_zero]
      rw [eh] at ha
      have ee : (uC v (2 + e)).eraseIdx 0 = W := by rw [hW]; rfl
      rw [ee] at y1
      obtain ⟨ws, hw⟩ := ha.tag
      have e1 : uC (upC v (2 + e) W) 1 = uC v 1 := uC_n (by omega)
      refine ⟨_, rfl, _, hw, y1.lst (k := 1) (by decide), _, rx_addC (k := 1) (x := r) y1 isC_1 rfl (by rw [if_pos rfl, e1]; omega) ?_ (fun _ => hfr), ?_⟩
      · obtain ⟨m, D, w1, w2, w3⟩ := ha
        exact ⟨m, D, w1, fun z => by omega, w3⟩
      rintro r' h2 ⟨rfl, y4, y5⟩
      rw [e1] at y4
      refine ⟨_, rfl, ?_⟩
      rw [pk_m1]
      refine ih h2 _ ⟨_, y4⟩ ?_ ?_ (fun h' q1 q2 => hq h' ?_ ((y2.trans y5).trans q2))
      · rw [uC_n (by omega), uC_s]
        rw [hW] at hn
        exact Nat.le_of_succ_le_succ hn
      · rw [uC_s, List.length_append]
        show _ + 1 + n ≤ 449
        omega
      · rw [show shN (n + 1) e v = (match uC v (2 + e) with | [] => v | r :: W => shN n e (upC (upC v (2 + e) W) 1 (uC v 1 ++ [r]))) from rfl, hW]
        exact q1
theorem k_put {gc : Nat → Nat} {d : Nat} {h : AH} {A : Nat → Nat} {I : Nat → Int32} {v : Mu} {F : Nat} {e a : Nat} {m : Msg} (hR : RC gc h A I v (F + 1)) (he : e < 6) {l : Nat} (hlim : I (201 + 10 * e) = nI l) (hl1 : l ≤ 12) (hw : (uC v (2 + e)).length ≤ 60) (hl : (uC v 1).length + (uC v (2 + e)).length ≤ 440) (hm : MsgAt h a m) : WP gc (d + 7) 49 [.ref (A 0), .int (nI e), .ref a] h (fun r h' => r = none ∧ RC gc h' A (opPut (I, v) e m).1 (opPut (I, v) e m).2 F ∧ KC h h' ∧ KM h h') := by
  obtain ⟨xs, hX⟩ := hR
  have hF := hX.rf
  obtain ⟨t, vs, g1, g2, g3, g4⟩ := hF.quA he
  have hk := isC_q he
  refine M49 ⟨_, _, hF.2.1, rfl, t, vs, _, g1, g2, g3, g4, _, _, hF.2.1, rfl, _, hF.2.1, Nat.le_of_ble_eq_true rfl, trivial, ?_⟩
  rintro h1 rfl
  have hF1 := hF.set0 (I' := upd I 0 (I 0 + 1)) (fun j hj => pk_un (by omega))
  rw [show upd I 0 (I 0 + 1) 0 = I 0 + 1 from pk_us, show upd I 0 (I 0 + 1) 1 = I 1 from pk_un (by decide), show upd I 0 (I 0 + 1) 2 = I 2 from pk_un (by decide)] at hF1
  have hX1 := hX.wr hF.2.1 (by omega) hF1
  have kc1 := KC.set (e := (9, [.ref (A 1), .ref (A 2), .ref (A 3), .ref (A 40), .ref (A 41), .int (I 0 + 1), .int (I 1), .int (I 2)])) hF.2.1 (by decide)
  have ko1 := KO.set (e := (9, [.ref (A 1), .ref (A 2), .ref (A 3), .ref (A 40), .ref (A 41), .int (I 0 + 1), .int (I 1), .int (I 2)])) hF.2.1 (by decide)
  have hm1 := hm.ko ko1
  generalize hh1 : ah_set h (A 0) (9, [.ref (A 1), .ref (A 2), .ref (A 3), .ref (A 40), .ref (A 41), .int (I 0 + 1), .int (I 1), .int (I 2)]) = h1 at hX1 kc1 ko1 hm1
  rw [show ah_set h (A 0) (9, List.set [.ref (A 1), .ref (A 2), .ref (A 3), .ref (A 40), .ref (A 41), .int (I 0), .int (I 1), .int (I 2)] 5 (.int (I 0 + 1))) = h1 from hh1]
  obtain ⟨n1, n2, n3, n4, n5⟩ := hX1.new (t := 4) (vs := [.ref a, .int (nI e), .int (I 0 + 1), .int 0, .int 0, .int (-1)]) (Nat.le_of_ble_eq_true rfl)
  refine ⟨n2, Nat.le_trans (by decide) n3, ?_⟩
  rintro _ _ rfl rfl
  have hb1 := hX1.rf.2.1
  rw [show upd I 0 (I 0 + 1) 0 = I 0 + 1 from pk_us] at hb1
  refine ⟨_, _, at_old hX1.1.2.1 hb1 (by decide), rfl, _, k_newC, ?_⟩
  rintro r h2 ⟨rfl, rfl⟩
  have hcp : CpAt (2 + e) (ah_new h1 (4, [.ref a, .int (nI e), .int (I 0 + 1), .int 0, .int 0, .int (-1)])) h1.1 (mkR m e (I 0 + 1)) := ⟨a, -1, at_new, fun z => by omega, hm1.ko n5⟩
  refine ⟨rfl, ⟨_, n1.rf.quO he⟩, _, k_insQ n1 he (by omega) hcp hX1.freeN, ?_⟩
  rintro r h3 ⟨rfl, q1, q2⟩
  have hlen : (uC (upC v (2 + e) (insR (uC v (2 + e)) (mkR m e (I 0 + 1)))) (2 + e)).length = (uC v (2 + e)).length + 1 := by rw [uC_s, insR_len]
  have el : upd I 0 (I 0 + 1) (201 + 10 * e) = nI l := by rw [pk_un (by omega), hlim]
  refine ⟨rfl, _, _, q1.rf.quO he, rfl, q1.lst (lt_C hk), _, rx_sizeC q1 hk rfl, ?_⟩
  rintro r h4 ⟨rfl, rfl⟩
  refine ⟨_, rfl, _, _, q1.rf.quO he, rfl, ?_⟩
  have hlm : lim I e = l := by
    unfold lim
    rw [hlim, nI_clamp (by omega)]
  have hop : opPut (I, v) e m = (upd I 0 (I 0 + 1), shN ((uC v (2 + e)).length + 1 - l) e (upC v (2 + e) (insR (uC v (2 + e)) (mkR m e (I 0 + 1))))) := by
    unfold opPut putI
    dsimp only
    rw [hlm]
  rw [hop, el, hlen]
  by_cases hc : l ≤ (uC v (2 + e)).length + 1
  · rw [pk_sub hc]
    refine put_loop he _ h4 _ ⟨_, q1⟩ (by rw [hlen]; omega) (by rw [uC_n (by omega)]; omega) (fun h' w1 w2 => ⟨rfl, w1, ((kc1.trans n4).trans q2.kc).trans w2.kc, ((ko1.km.trans n5.km).trans q2.km).trans w2.km⟩)
  · rw [show (uC v (2 + e)).length + 1 - l = 0 by omega]
    refine B49_48 ⟨fun _ => B49_78 ⟨rfl, ⟨_, q1⟩, ((kc1.trans n4).trans q2.kc), ((ko1.km.trans n5.km).trans q2.km)⟩, fun z => absurd (sub_le0 (by omega) (by omega)) z⟩
/-! route -/
theorem rt_loop {gc : Nat → Nat} {d : Nat} {A : Nat → Nat} {q : PT} {e a : Nat} {m : Msg} (he : e < 5) : ∀ n w (h : AH) (I : Nat → Int32) (v : Mu) (F b : Nat), w + n = 6 → RC gc h A I v (F + n) → (uB v 0).length ≤ 64 → NOK I → LB v b → b + n ≤ 430 → MsgAt h a m → (∀ h', RC gc h' A (rtF e m n w (I, v)).1 (rtF e m n w (I, v)).2 F → KC h h' → KM h h' → q none h') → TT gc (d + 7) 48 q 2 [.ref (A 0), .int (nI e), .ref a, .int (nI w)] [] h := by
  intro n
  induction n with
  | zero =>
    intro w h I v F b hw hR hB hl hb hbn hm hq
    exact B48_2 ⟨fun _ => B48_33 (hq h hR KC.refl (fun _ _ z => z)), fun z => absurd (show (6 : Int32) ≤ nI w from nI_le (a := 6) (by omega) (by omega)) z⟩
  | succ n ih =>
    intro w h I v F b hw hR hB hl hb hbn hm hq
    obtain ⟨xs, hX⟩ := hR
    have hs : rtF e m (n + 1) w (I, v) = rtF e m n (w + 1) (if isCh (I, v) e w (mKey m) then opPut (I, v) w m else (I, v)) := rfl
    refine B48_2 ⟨fun z => absurd z (show ¬ (6 : Int32) ≤ nI w from nI_ge (b := 6) (by omega) (by decide)), fun _ => ⟨_, _, hm, rfl, ⟨_, hX.rf.2.1⟩, _, k_isCh hX he hB, ?_⟩⟩
    rintro r h' ⟨rfl, rfl⟩
    refine ⟨_, rfl, fun z => B48_27 ?_, fun z => ?_⟩
    · rw [show isCh (I, v) e w (mKey m) = false from b2i_z.mp z, if_neg (by decide)] at hs
      rw [nI_1]
      refine ih (w + 1) h' I v F (b + 1) (by omega) (RC.le ⟨xs, hX⟩ (by omega)) hB hl (hb.mono (by omega)) (by omega) hm (fun h2 q1 q2 q3 => hq h2 ?_ q2 q3)
      rw [hs]
      exact q1
    · rw [show isCh (I, v) e w (mKey m) = true from b2i_nz z, if_pos rfl] at hs
      obtain ⟨l, hl3, -, hl4⟩ := hl w (by omega)
      have hw60 := hb.w (q := w) (by omega)
      have hlw := hb.l (q := w) (by omega)
      refine ⟨⟨_, hX.rf.2.1⟩, _, k_put (F := F + n) ⟨xs, hX⟩ (by omega) hl3 hl4 hw60 (by omega) hm, ?_⟩
      rintro r h2 ⟨rfl, q1, q2, q3⟩
      refine ⟨rfl, B48_27 ?_⟩
      rw [nI_1]
      have hsm := Sm.put (s := (I, v)) (q := w) (m := m) (by omega)
      have hB2 : uB (opPut (I, v) w m).2 0 = uB v 0 := congrFun hsm.2.1 0
      refine ih (w + 1) h2 _ _ F (b + 1) (by omega) q1 (by rw [hB2]; exact hB) (hsm.nok hl) (hb.put (s := (I, v)) (by omega) (hl.lm (by omega))) (by omega) (q3 _ _ hm) (fun h3 w1 w2 w3 => hq h3 ?_ (q2.trans w2) (q3.trans w3))
      rw [hs]
      exact w1
theorem k_route {gc : Nat → Nat} {d : Nat} {h : AH} {A : Nat → Nat} {I : Nat → Int32} {v : Mu} {F : Nat} {e a b : Nat} {m : Msg} (hR : RC gc h A I v (F + 6)) (he : e < 5) (hB : (uB v 0).length ≤ 64) (hn : NOK I) (hb : LB v b) (hb2 : b ≤ 424) (hm : MsgAt h a m) : WP gc (d + 8) 48 [.ref (A 0), .int (nI e), .ref a] h (fun r h' => r = none ∧ RC gc h' A (opRt (I, v) e m).1 (opRt (I, v) e m).2 F ∧ KC h h' ∧ KM h h') :=
  M48 (rt_loop he 6 0 h I v F b rfl hR hB hn hb (by omega) hm (fun h' q1 q2 q3 => ⟨rfl, q1, q2, q3⟩))
end
section
/-! letters, publish -/
theorem k_hop {gc : Nat → Nat} {d : Nat} {h : AH} {A : Nat → Nat} {I : Nat → Int32} {xs ys : Nat → List Nat} {v : Mu} {F : Nat} {a : Nat} {m : Msg} (hR : RX gc h A I xs ys v (F + 1)) (hm : MsgAt h a m) : WP gc (d + 2) 56 [.ref a] h (fun r h' => ∃ b, r = some (.ref b) ∧ RX gc h' A I xs ys v F ∧ MsgAt h' b (hopM m) ∧ KC h h' ∧ KO h h') := by
  obtain ⟨n1, n2, n3, n4, n5⟩ := hR.new (t := 7) (vs := [.int m.1, .int m.2.1, .int (m.2.2.1 + 1), .int (b2i m.2.2.2)]) (Nat.le_of_ble_eq_true rfl)
  refine M56 ⟨n2, Nat.le_trans (by decide) n3, ?_⟩
  rintro _ _ rfl rfl
  have hm2 : at_ (ah_new h (7, dfl 7)) a 7 [.int m.1, .int m.2.1, .int m.2.2.1, .int (b2i m.2.2.2)] := at_old hR.1.2.1 hm (by decide)
  refine ⟨_, _, hm2, rfl, _, _, hm2, rfl, _, _, hm2, rfl, _, _, hm2, rfl, _, k_newM (b2i_01 _), ?_⟩
  rintro r h' ⟨rfl, rfl⟩
  exact ⟨rfl, _, rfl, n1, at_new, n4, n5⟩
theorem k_goOn {gc : Nat → Nat} {d : Nat} {h : AH} {A : Nat → Nat} {I : Nat → Int32} {xs ys : Nat → List Nat} {v : Mu} {F : Nat} {a k : Nat} {r : Rec} (hR : RX gc h A I xs ys v F) (ha : CpAt k h a r) (hq6 : ∃ q, q < 6 ∧ rQ r = nI q) : WP gc (d + 3) 55 [.ref (A 0), .ref a] h (fun r' h' => r' = some (.int (b2i (goOn I r))) ∧ h' = h) := by
  obtain ⟨q, hq6, hrq⟩ := hq6
  obtain ⟨m, D, w1, w2, w3⟩ := ha
  have hF := hR.rf
  rw [hrq] at w1
  obtain ⟨t, vs, g1, g2, g3, g4⟩ := hF.quA hq6
  have hd : dead I r = I (202 + 10 * q) := by
    unfold dead
    rw [hrq, nI_clamp (by omega)]
  unfold goOn
  rw [hd]
  refine M55 ⟨_, _, hF.2.1, rfl, _, _, w1, rfl, t, vs, _, g1, g2, g3, g4, _, _, hF.quO hq6, rfl, ⟨_, hF.2.1⟩, _, k_isE hF, ?_⟩
  rintro r' h' ⟨rfl, rfl⟩
  refine ⟨_, rfl, fun z => B55_34 (B55_35 ⟨Or.inl rfl, ?_, rfl⟩), fun z => ⟨_, _, w1, rfl, _, _, w3, rfl, fun z2 => B55_34 (B55_35 ⟨Or.inl rfl, ?_, rfl⟩), fun z2 => B55_35 ⟨Or.inr rfl, ?_, rfl⟩⟩⟩
  · rw [b2i_z.mp z]; rfl
  · rw [decide_eq_false (fun w => w z2), Bool.and_false]; rfl
  · rw [b2i_nz z, show decide (¬ 3 ≤ mHops (rM r)) = true from decide_eq_true z2]; rfl
theorem goOn_ex {I : Nat → Int32} {r : Rec} (h : goOn I r = true) : ∃ e, e < 5 ∧ dead I r = nI e := isEx_rng (Bool.and_eq_true _ _ ▸ h).1
theorem rt_L {e : Nat} {m : Msg} : ∀ n q (s : St), q + n ≤ 6 → (uC s.2 1).length ≤ (uC (rtF e m n q s).2 1).length := by
  intro n
  induction n with
  | zero => intro q s _; exact Nat.le_refl _
  | succ n ih =>
    intro q s hq6
    show _ ≤ (uC (rtF e m n (q + 1) (if isCh s e q (mKey m) then opPut s q m else s)).2 1).length
    refine Nat.le_trans ?_ (ih (q + 1) _ (by omega))
    split
    · unfold opPut
      dsimp only
      have hp : uC (putI s.2 q (mkR m q (s.1 0 + 1))) (2 + q) = insR (uC s.2 (2 + q)) (mkR m q (s.1 0 + 1)) := uC_s
      have hp1 : uC (putI s.2 q (mkR m q (s.1 0 + 1))) 1 = uC s.2 1 := uC_n (by omega)
      rw [shN_eq _ _ (by rw [hp, insR_len]; omega), uC_s, hp1, List.length_append]
      omega
    · exact Nat.le_refl _
theorem rl_loop {gc : Nat → Nat} {d : Nat} {A : Nat → Nat} {q : PT} : ∀ n i k v3 (h : AH) (I : Nat → Int32) (v : Mu) (F b : Nat), i + n = 450 → i ≤ (uC v 1).length → k ≤ 3 → RC gc h A I v (F + 7 * (3 - k)) → (uB v 0).length ≤ 64 → NOK I → CQ v → LB v b → b + 6 * (3 - k) ≤ 424 → (∀ h' (x2 : Int32) v3, RC gc h' A (rlF n i k (I, v)).2.1 (rlF n i k (I, v)).2.2 F → KC h h' → TT gc (d + 8) 54 q 92 [.ref (A 0), .int (nI (rlF n i k (I, v)).1), .int x2, v3] [] h') → TT gc (d + 8) 54 q 4 [.ref (A 0), .int (nI k), .int (nI i), v3] [] h := by
  intro n
  induction n with
  | zero =>
    intro i k v3 h I v F b hi hil _ _ _ _ _ hb hb2 _
    have := hb.2.2
    omega
  | succ n ih =>
    intro i k v3 h I v F b hi hil hk hR hB hn hcq hb hb2 hq
    obtain ⟨xs, hX⟩ := hR
    have hF := hX.rf
    have hL : (uC v 1).length ≤ 424 := by have := hb.2.2; omega
    have hs : rlF (n + 1) i k (I, v) = (match (uC v 1)[i]? with
      | none => (k, (I, v))
      | some r => if decide (k < 3) && goOn I r then rlF n (i + 1) (k + 1) (opRt (I, v) (dead I r).toNatClampNeg (hopM (rM r))) else rlF n (i + 1) k (upd I 2 (I 2 + 1), v)) := rfl
    refine B54_4 ⟨_, _, hF.2.1, rfl, hX.lst (k := 1) (by decide), _, rx_sizeC hX isC_1 rfl, ?_⟩
    rintro r h' ⟨rfl, rfl⟩
    by_cases hil2 : i < (uC v 1).length
    · rw [List.getElem?_eq_getElem hil2] at hs
      refine ⟨_, rfl, fun z => absurd z (nI_ge hil2 (by omega)), fun _ => ⟨fun z => absurd z (show ¬ nI 1000000 ≤ nI i from nI_ge (by omega) (by decide)), fun _ => ⟨_, _, hF.2.1, rfl, hX.lst (k := 1) (by decide), _, rx_getC hX isC_1 rfl hil2, ?_⟩⟩⟩
      rintro r h2 ⟨a, rfl, rfl, -, ha⟩
      have hmem := hcq.1 1 isC_1 _ (List.getElem_mem hil2)
      generalize (uC v 1)[i] = r at ha hs hmem
      dsimp only at hs
      obtain ⟨ws, hw⟩ := ha.tag
      have lost : (decide (k < 3) && goOn I r) = false → TT gc (d + 8) 54 q 76 [.ref (A 0), .int (nI k), .int (nI i), .ref a] [] h2 := fun hz => by
        rw [hz] at hs
        have hs : rlF (n + 1) i k (I, v) = rlF n (i + 1) k (upd I 2 (I 2 + 1), v) := hs
        refine B54_76 ⟨_, _, hF.2.1, rfl, _, hF.2.1, Nat.le_of_ble_eq_true rfl, trivial, ?_⟩
        rintro h4 rfl
        have hF1 := hF.set0 (I' := upd I 2 (I 2 + 1)) (fun j hj => pk_un (by omega))
        rw [show upd I 2 (I 2 + 1) 2 = I 2 + 1 from pk_us, show upd I 2 (I 2 + 1) 1 = I 1 from pk_un (by decide), show upd I 2 (I 2 + 1) 0 = I 0 from pk_un (by decide)] at hF1
        have hX1 := hX.wr hF.2.1 (by omega) hF1
        refine B54_86 ?_
        rw [nI_1]
        refine ih (i + 1) k _ _ _ v F b (by omega) (by omega) hk ⟨xs, hX1⟩ hB (fun q hq6 => ?_) hcq hb hb2 (fun h' x2 v3 q1 q2 => ?_)
        · rw [pk_un (by omega)]
          exact hn q hq6
        · have := hq h' x2 v3 (by rw [hs]; exact q1) ((KC.set hF.2.1 (by decide)).trans q2)
          rw [hs] at this
          exact this
      refine ⟨_, rfl, _, hw, fun z => lost ?_, fun z => ⟨⟨_, hF.2.1⟩, _, k_goOn hX ha hmem, ?_⟩⟩
      · have : ¬ k < 3 := fun w => absurd z (show ¬ (3 : Int32) ≤ nI k from nI_ge (b := 3) w (by decide))
        rw [decide_eq_false this, Bool.false_and]
      · have hk3 : k < 3 := by
          apply Nat.lt_of_not_le
          intro w
          exact z (show (3 : Int32) ≤ nI k from nI_le (a := 3) w (by omega))
        rintro r' h3 ⟨rfl, rfl⟩
        refine ⟨_, rfl, fun z2 => lost ?_, fun z2 => ?_⟩
        · rw [b2i_z.mp z2, Bool.and_false]
        · have hg := b2i_nz z2
          rw [hg, decide_eq_true hk3] at hs
          have hs : rlF (n + 1) i k (I, v) = rlF n (i + 1) (k + 1) (opRt (I, v) (dead I r).toNatClampNeg (hopM (rM r))) := hs
          obtain ⟨e, he, hde⟩ := goOn_ex hg
          rw [hde, nI_clamp (by omega)] at hs
          obtain ⟨w, hw6, hrq⟩ := hmem
          obtain ⟨m, D, w1, w2, w3⟩ := ha
          rw [hrq] at w1
          obtain ⟨t, vs, g1, g2, g3, g4⟩ := hF.quA hw6
          have hd : I (202 + 10 * w) = nI e := by
            rw [← hde]
            unfold dead
            rw [hrq, nI_clamp (by omega)]
          have hquo := hF.quO hw6
          rw [hd] at hquo
          have hX' : RX gc h3 A I xs xs v (F + 7 * (3 - (k + 1)) + 6 + 1) := by
            rw [show F + 7 * (3 - (k + 1)) + 6 + 1 = F + 7 * (3 - k) by omega]
            exact hX
          refine ⟨_, _, hF.2.1, rfl, _, _, w1, rfl, t, vs, _, g1, g2, g3, g4, _, _, hquo, rfl, _, _, w1, rfl, ⟨_, w3⟩, _, k_hop hX' w3, ?_⟩
          rintro r' h4 ⟨b4, rfl, y1, y2, y3, y4⟩
          refine ⟨_, rfl, ⟨_, y1.rf.2.1⟩, _, k_route (b := b) ⟨_, y1⟩ he hB hn hb (by omega) y2, ?_⟩
          rintro r' h5 ⟨rfl, y5, y6, y7⟩
          refine ⟨rfl, B54_86 ?_⟩
          rw [nI_1, nI_1]
          have hsm := Sm.rt (e := e) (m := hopM (rM r)) 6 0 (I, v) (by omega)
          have hB2 : uB (opRt (I, v) e (hopM (rM r))).2 0 = uB v 0 := congrFun hsm.2.1 0
          have hlb := LB.rt (e := e) (m := hopM (rM r)) 6 0 (I, v) b (by omega) hn hb
          refine ih (i + 1) (k + 1) _ _ _ _ F (b + 6) (by omega) ?_ (by omega) y5 (by rw [hB2]; exact hB) (hsm.nok hn) (CQ.rt 6 0 _ (by omega) hcq) hlb (by omega) (fun h' x2 v3 q1 q2 => ?_)
          · exact Nat.le_trans hil2 (rt_L 6 0 (I, v) (by omega))
          · have := hq h' x2 v3 (by rw [hs]; exact q1) ((y3.trans y6).trans q2)
            rw [hs] at this
            exact this
    · rw [List.getElem?_eq_none (by omega)] at hs
      have hs : rlF (n + 1) i k (I, v) = (k, (I, v)) := hs
      refine ⟨_, rfl, fun _ => ?_, fun z => absurd (nI_le (by omega) (by omega)) z⟩
      have := hq h' (nI i) v3 (by rw [hs]; exact RC.le ⟨xs, hX⟩ (by omega)) KC.refl
      rw [hs] at this
      exact this
theorem k_rl {gc : Nat → Nat} {d : Nat} {h : AH} {A : Nat → Nat} {I : Nat → Int32} {v : Mu} {F : Nat} {b : Nat} (hR : RC gc h A I v (F + 21)) (hB : (uB v 0).length ≤ 64) (hn : NOK I) (hcq : CQ v) (hb : LB v b) (hb2 : b ≤ 406) : WP gc (d + 9) 54 [.ref (A 0)] h (fun r h' => r = none ∧ RC gc h' A (opRl (I, v)).1 (opRl (I, v)).2 F ∧ KC h h') := by
  refine M54 (rl_loop 450 0 0 _ h I v F b rfl (Nat.zero_le _) (by decide) hR hB hn hcq hb (by omega) (fun h' x2 v3 q1 q2 => ?_))
  have ho : opRl (I, v) = (upd (rlF 450 0 0 (I, v)).2.1 1 ((rlF 450 0 0 (I, v)).2.1 1 + nI (rlF 450 0 0 (I, v)).1), upC (rlF 450 0 0 (I, v)).2.2 1 []) := rfl
  rw [ho]
  generalize rlF 450 0 0 (I, v) = t at q1
  obtain ⟨k, J, u⟩ := t
  obtain ⟨xs, hX⟩ := q1
  have hX : RX gc h' A J xs xs u F := hX
  have hF := hX.rf
  refine B54_92 ⟨_, _, hF.2.1, rfl, _, hF.2.1, Nat.le_of_ble_eq_true rfl, trivial, ?_⟩
  rintro h4 rfl
  have hF1 := hF.set0 (I' := upd J 1 (J 1 + nI k)) (fun j hj => pk_un (by omega))
  rw [show upd J 1 (J 1 + nI k) 1 = J 1 + nI k from pk_us, show upd J 1 (J 1 + nI k) 2 = J 2 from pk_un (by decide), show upd J 1 (J 1 + nI k) 0 = J 0 from pk_un (by decide)] at hF1
  have hX1 := hX.wr hF.2.1 (by omega) hF1
  refine ⟨_, _, at_s, rfl, hX1.lst (k := 1) (by decide), _, rx_clrC hX1 isC_1, ?_⟩
  rintro r h5 ⟨rfl, y1, y2⟩
  exact ⟨rfl, rfl, ⟨_, y1⟩, (q2.trans (KC.set hF.2.1 (by decide))).trans y2.kc⟩
end
section
/-! publish -/
def pubM (x3 x4 x5 : Int32) : Msg := (x4, x3, 0, decide (¬ x5 &&& 1 = 0))
def opPb (s : St) (x1 x2 x3 x4 x5 : Int32) : Int32 × St :=
  if wi x1 0 3 && (isEx s.1 x2 && (isKeyB x3 && wi x5 0 3)) then
    (if s.1 (301 + 10 * x1.toNatClampNeg) = 0 then
      (if ccF s x2.toNatClampNeg x3 6 0 = 0 ∧ ¬ x5 &&& 2 = 0 then (-4, s) else (nI (ccF s x2.toNatClampNeg x3 6 0), opRl (opRt s x2.toNatClampNeg (pubM x3 x4 x5))))
    else if (uD s.2 (18 + x1.toNatClampNeg)).length < 4 then (100, (s.1, upD s.2 (18 + x1.toNatClampNeg) (uD s.2 (18 + x1.toNatClampNeg) ++ [(x2, some (pubM x3 x4 x5), 0)]))) else (-2, s))
  else (-1, s)
theorem pub85 {gc : Nat → Nat} {d : Nat} {h : AH} {A : Nat → Nat} {I : Nat → Int32} {v : Mu} {F : Nat} {c e : Nat} {x3 x4 x5 : Int32} {q : PT} (hR : RC gc h A I v (F + 28)) (hc : c < 4) (he : e < 5) (hB : (uB v 0).length ≤ 64) (hn : NOK I) (hcq : CQ v) (hb : LB v 360)
    (hq1 : I (301 + 10 * c) = 0 → ∀ h', RC gc h' A I v F → KC h h' → ccF (I, v) e x3 6 0 = 0 → ¬ x5 &&& 2 = 0 → q (some (.int (-4))) h')
    (hq2 : I (301 + 10 * c) = 0 → ∀ h', RC gc h' A (opRl (opRt (I, v) e (pubM x3 x4 x5))).1 (opRl (opRt (I, v) e (pubM x3 x4 x5))).2 F → KC h h' → ¬ (ccF (I, v) e x3 6 0 = 0 ∧ ¬ x5 &&& 2 = 0) → q (some (.int (nI (ccF (I, v) e x3 6 0)))) h')
    (hd : ¬ I (301 + 10 * c) = 0 → (uD v (18 + c)).length < 4)
    (hq3 : ¬ I (301 + 10 * c) = 0 → ∀ h', RC gc h' A I (upD v (18 + c) (uD v (18 + c) ++ [(nI e, some (pubM x3 x4 x5), 0)])) F → KC h h' → q (some (.int 100)) h') :
    TT gc (d + 9) 39 q 65 [.ref (A 0), .int (nI c), .int (nI e), .int x3, .int x4, .int x5, .ref (A (30 + c)), .retAddr 0, .retAddr 0] [] h := by
  obtain ⟨xs, hX⟩ := hR
  have hX : RX gc h A I xs xs v (F + 27 + 1) := hX
  obtain ⟨n1, n2, n3, n4, n5⟩ := hX.new (t := 7) (vs := [.int x4, .int x3, .int 0, .int (b2i (decide (¬ x5 &&& 1 = 0)))]) (Nat.le_of_ble_eq_true rfl)
  have main : TT gc (d + 9) 39 q 85 [.ref (A 0), .int (nI c), .int (nI e), .int x3, .int x4, .int x5, .ref (A (30 + c)), .retAddr 0, .retAddr 0] [.int (b2i (decide (¬ x5 &&& 1 = 0))), .int 0, .int x3, .int x4, .ref h.1, .ref h.1] (ah_new h (7, dfl 7)) := by
    refine B39_85 ⟨_, k_newM (b2i_01 _), ?_⟩
    rintro r h3 ⟨rfl, hh3⟩
    rw [← hh3] at n1 n4 n5
    have hms : MsgAt h3 h.1 (pubM x3 x4 x5) := by
      rw [hh3]
      exact at_new
    have hF := n1.rf
    refine ⟨rfl, _, _, hF.chO hc, rfl, fun z => B39_121 ⟨⟨_, hF.2.1⟩, _, k_cc n1 he hB, ?_⟩, fun z => ?_⟩
    · rintro r h4 ⟨rfl, rfl⟩
      have hcc := cc_le (s := (I, v)) (e := e) (key := x3) 6 0
      have go : ¬ (ccF (I, v) e x3 6 0 = 0 ∧ ¬ x5 &&& 2 = 0) → TT gc (d + 9) 39 q 144 [.ref (A 0), .int (nI c), .int (nI e), .int x3, .int x4, .int x5, .ref (A (30 + c)), .ref h.1, .int (nI (ccF (I, v) e x3 6 0))] [] h4 := fun hz => by
        refine B39_144 ⟨⟨_, hF.2.1⟩, _, k_route (F := F + 21) (b := 360) ⟨xs, n1⟩ he hB hn hb (by omega) hms, ?_⟩
        rintro r h5 ⟨rfl, y1, y2, y3⟩
        have hsm := Sm.rt (e := e) (m := pubM x3 x4 x5) 6 0 (I, v) (by omega)
        have hB2 : uB (opRt (I, v) e (pubM x3 x4 x5)).2 0 = uB v 0 := congrFun hsm.2.1 0
        have hlb := LB.rt (e := e) (m := pubM x3 x4 x5) 6 0 (I, v) 360 (by omega) hn hb
        refine ⟨rfl, ⟨_, y1.rf.2.1⟩, _, k_rl (b := 366) y1 (by rw [hB2]; exact hB) (hsm.nok hn) (CQ.rt 6 0 _ (by omega) hcq) hlb (by omega), ?_⟩
        rintro r h6 ⟨rfl, y4, y5⟩
        exact ⟨rfl, hq2 z h6 y4 ((n4.trans y2).trans y5) hz⟩
      refine ⟨_, rfl, fun z2 => go (fun w => z2 (by rw [w.1]; rfl)), fun z2 => ⟨fun z3 => go (fun w => w.2 z3), fun z3 => ?_⟩⟩
      have hz0 := (nI_z (by omega)).mp z2
      exact hq1 z h4 (RC.le ⟨_, n1⟩ (by omega)) n4 hz0 z3
    · have n1 : RX gc h3 A I xs xs v (F + 26 + 1) := n1
      obtain ⟨o1, o2, o3, o4, o5⟩ := n1.new (t := 5) (vs := [.int (nI e), .ref h.1, .int 0]) (Nat.le_of_ble_eq_true rfl)
      refine ⟨_, _, hF.chO hc, rfl, o2, Nat.le_trans (by decide) o3, ?_⟩
      rintro _ _ rfl rfl
      refine ⟨_, k_newD, ?_⟩
      rintro r h5 ⟨rfl, hh5⟩
      rw [← hh5] at o1 o4 o5
      have hdd : DdAt h5 h3.1 (nI e, some (pubM x3 x4 x5), 0) := ⟨h.1, by rw [hh5]; exact at_new, hms.ko o5⟩
      have hdl := hd z
      refine ⟨rfl, o1.lst (lt_D (isD_c hc)), _, rx_addD o1 (isD_c hc) rfl (by rw [if_neg (by omega)]; omega) hdd (fun w => absurd w (by unfold isC; omega)), ?_⟩
      rintro r h6 ⟨rfl, y1, y2⟩
      exact ⟨_, rfl, hq3 z h6 (RC.le ⟨_, y1⟩ (by omega)) ((n4.trans o4).trans y2.kc)⟩
  refine B39_65 ⟨n2, Nat.le_trans (by decide) n3, ?_⟩
  rintro _ _ rfl rfl
  refine ⟨fun z => B39_84 ?_, fun z => ?_⟩
  · rw [decide_eq_false (fun w => w z)] at main
    exact main
  · rw [decide_eq_true z] at main
    exact main
theorem k_publish {gc : Nat → Nat} {d : Nat} {h : AH} {A : Nat → Nat} {I : Nat → Int32} {v : Mu} {F : Nat} {x1 x2 x3 x4 x5 : Int32} (hR : RC gc h A I v (F + 28)) (hB : (uB v 0).length ≤ 64) (hn : NOK I) (hcq : CQ v) (hb : LB v 360) (hD : ∀ c, c < 4 → (uD v (18 + c)).length ≤ 4) : WP gc (d + 10) 39 [.ref (A 0), .int x1, .int x2, .int x3, .int x4, .int x5] h (fun r h' => r = some (.int (opPb (I, v) x1 x2 x3 x4 x5).1) ∧ RC gc h' A (opPb (I, v) x1 x2 x3 x4 x5).2.1 (opPb (I, v) x1 x2 x3 x4 x5).2.2 F ∧ KC h h') := by
  have hF := hR.rf
  have bad : (wi x1 0 3 && (isEx I x2 && (isKeyB x3 && wi x5 0 3))) = false → (some (Value.int (-1)) = some (Value.int (opPb (I, v) x1 x2 x3 x4 x5).1) ∧ RC gc h A (opPb (I, v) x1 x2 x3 x4 x5).2.1 (opPb (I, v) x1 x2 x3 x4 x5).2.2 F ∧ KC h h) := fun hb => by
    unfold opPb
    rw [hb, if_neg (by decide)]
    exact ⟨rfl, hR.le (by omega), KC.refl⟩
  refine M39 ⟨_, k_isChannel, ?_⟩
  rintro r h' ⟨rfl, rfl⟩
  refine ⟨_, rfl, fun z => B39_32 (bad ?_), fun z1 => ⟨⟨_, hF.2.1⟩, _, k_isE hF, ?_⟩⟩
  · rw [show wi x1 0 3 = false from b2i_z.mp z, Bool.false_and]
  rintro r h' ⟨rfl, rfl⟩
  refine ⟨_, rfl, fun z => B39_32 (bad ?_), fun z2 => ⟨_, k_isKey, ?_⟩⟩
  · rw [b2i_z.mp z, Bool.false_and, Bool.and_false]
  rintro r h' ⟨rfl, rfl⟩
  refine ⟨_, rfl, fun z => B39_32 (bad ?_), fun z3 => ⟨_, k_isWithin, ?_⟩⟩
  · rw [b2i_z.mp z, Bool.false_and, Bool.and_false, Bool.and_false]
  rintro r h' ⟨rfl, rfl⟩
  refine ⟨_, rfl, fun z4 => B39_34 ?_, fun z => B39_32 (bad ?_)⟩
  rotate_left
  · rw [show wi x5 0 3 = false from b2i_z.mp z, Bool.and_false, Bool.and_false, Bool.and_false]
  have z1 : wi x1 0 3 = true := b2i_nz z1
  have z4 : wi x5 0 3 = true := b2i_nz z4
  have z2 := b2i_nz z2
  have z3 := b2i_nz z3
  obtain ⟨c, hc, rfl⟩ := wi_rng (n := 3) (by decide) z1
  obtain ⟨e, he, rfl⟩ := isEx_rng z2
  have ho : opPb (I, v) (nI c) (nI e) x3 x4 x5 = (if I (301 + 10 * c) = 0 then
      (if ccF (I, v) e x3 6 0 = 0 ∧ ¬ x5 &&& 2 = 0 then (-4, (I, v)) else (nI (ccF (I, v) e x3 6 0), opRl (opRt (I, v) e (pubM x3 x4 x5))))
    else if (uD v (18 + c)).length < 4 then (100, (I, upD v (18 + c) (uD v (18 + c) ++ [(nI e, some (pubM x3 x4 x5), 0)]))) else (-2, (I, v))) := by
    unfold opPb
    rw [z1, z2, z3, z4, nI_clamp (by omega), nI_clamp (by omega)]
    rfl
  have hF := hR.rf
  obtain ⟨t, vs, g1, g2, g3, g4⟩ := hF.chA hc
  have hdc := hD c hc
  refine ⟨_, _, hF.2.1, rfl, t, vs, _, g1, g2, g3, g4, _, _, hF.chO hc, rfl, fun z => ?_, fun z => ?_⟩
  · rw [if_pos z] at ho
    rw [ho]
    refine pub85 hR hc he hB hn hcq hb (fun _ h2 q1 q2 q3 q4 => ?_) (fun _ h2 q1 q2 q3 => ?_) (fun w => absurd z w) (fun w => absurd z w)
    · rw [if_pos ⟨q3, q4⟩]
      exact ⟨rfl, q1, q2⟩
    · rw [if_neg q3]
      exact ⟨rfl, q1, q2⟩
  · rw [if_neg z] at ho
    rw [ho]
    obtain ⟨xs, hX⟩ := hR
    refine ⟨_, _, hF.chO hc, rfl, hX.lst (lt_D (isD_c hc)), _, rx_sizeD hX (isD_c hc) rfl, ?_⟩
    rintro r h2 ⟨rfl, rfl⟩
    refine ⟨_, rfl, pk_lt (uD v (18 + c)).length 4 (fun hl => ?_) (fun hl => ?_)⟩
    · rw [if_pos hl]
      exact pub85 ⟨xs, hX⟩ hc he hB hn hcq hb (fun w => absurd w z) (fun w => absurd w z) (fun _ => hl) (fun _ h2 q1 q2 => ⟨rfl, q1, q2⟩)
    · rw [if_neg (by omega)]
      exact ⟨rfl, RC.le ⟨xs, hX⟩ (by omega), KC.refl⟩
end
section
/-! settling: what the calls do -/
def meant (tg : Int32) (wh : Bool) (r : Rec) : Bool := decide (rD r = -1) && (if wh then decide (tg = 0) || decide (¬ tg < rT r) else decide (rT r = tg))
def rSetD (r : Rec) (D : Int32) : Rec := (rM r, rRet r, rQ r, rP r, rT r, D)
def mrk (tg : Int32) (wh : Bool) (D : Int32) (r : Rec) : Rec := if meant tg wh r then rSetD r D else r
def rBk (r : Rec) : Rec := (rM r, true, rQ r, rP r, rT r, -1)
def bk (v : Mu) (r : Rec) : Mu := upC v (2 + (rQ r).toNatClampNeg) (insR (uC v (2 + (rQ r).toNatClampNeg)) (rBk r))
def stl (v : Mu) (r : Rec) (how : Int32) : Mu := if how = 1 then bk v r else if how = 2 then upC v 1 (uC v 1 ++ [rW r]) else v
def smF (c : Nat) (P : Rec → Bool) (how : Int32) : Nat → Nat → Mu → Mu
  | 0, _, v => v
  | n + 1, j, v => match (uC v (14 + c))[j]? with
    | none => v
    | some r => if P r then smF c P how n j (stl (upC v (14 + c) ((uC v (14 + c)).eraseIdx j)) r how) else smF c P how n (j + 1) v
def clF (c : Nat) : Nat → Mu → Mu
  | 0, v => v
  | n + 1, v => match uC v (14 + c) with
    | [] => v
    | r :: l => clF c n (bk (upC v (14 + c) l) r)
theorem countP_er {p : Rec → Bool} : ∀ {l : List Rec} {j : Nat} {r : Rec}, l[j]? = some r → (l.eraseIdx j).countP p + (p r).toNat = l.countP p ∧ (l.eraseIdx j).length + 1 = l.length := by
  intro l
  induction l with
  | nil => intro j r h; cases h
  | cons y l ih =>
    intro j r h
    cases j with
    | zero =>
      have : y = r := Option.some.inj h
      subst this
      show l.countP p + _ = _ ∧ _
      rw [List.countP_cons]
      refine ⟨?_, rfl⟩
      cases p y <;> rfl
    | succ j =>
      obtain ⟨h1, h2⟩ := ih (j := j) (r := r) h
      show (y :: l.eraseIdx j).countP p + _ = _ ∧ (y :: l.eraseIdx j).length + 1 = _
      rw [List.countP_cons, List.countP_cons, List.length_cons, List.length_cons]
      omega
/-- a copy is taken from a channel -/
theorem LB.tk {v : Mu} {b c j : Nat} {r : Rec} (h : LB v b) (hc : c < 4) (hj : (uC v (14 + c))[j]? = some r) : 1 ≤ b ∧ LB (upC v (14 + c) ((uC v (14 + c)).eraseIdx j)) (b - 1) ∧ ∀ p, p < 6 → (uC v (2 + p)).length + hq (upC v (14 + c) ((uC v (14 + c)).eraseIdx j)) p + (pq p r).toNat ≤ 60 := by
  have ew : ∀ k, k < 8 → uC (upC v (14 + c) ((uC v (14 + c)).eraseIdx j)) k = uC v k := fun k hk => uC_n (by omega)
  have e1 : ∀ p, hq (upC v (14 + c) ((uC v (14 + c)).eraseIdx j)) p + (pq p r).toNat = hq v p := fun p => by
    have h1 := sum_up (f := v.2.1) (g := fun l => l.countP (pq p)) (o := 14) (i := c) (n := 4) (l := (uC v (14 + c)).eraseIdx j) hc
    have h2 := (countP_er (p := pq p) hj).1
    have h1 : hq (upC v (14 + c) ((uC v (14 + c)).eraseIdx j)) p + (uC v (14 + c)).countP (pq p) = hq v p + ((uC v (14 + c)).eraseIdx j).countP (pq p) := h1
    omega
  have e2 : sh (upC v (14 + c) ((uC v (14 + c)).eraseIdx j)) + 1 = sh v := by
    have h1 := sum_up (f := v.2.1) (g := List.length) (o := 14) (i := c) (n := 4) (l := (uC v (14 + c)).eraseIdx j) hc
    have h2 := (countP_er (p := pq 0) hj).2
    have h1 : sh (upC v (14 + c) ((uC v (14 + c)).eraseIdx j)) + (uC v (14 + c)).length = sh v + ((uC v (14 + c)).eraseIdx j).length := h1
    omega
  have e3 : sw (upC v (14 + c) ((uC v (14 + c)).eraseIdx j)) = sw v := sumTo_cg 6 (fun q hq6 => by rw [ew (2 + q) (by omega)])
  have h3 := h.2.2
  refine ⟨by omega, ⟨fun i hi => ?_, fun q hq6 => ?_, ?_⟩, fun p hp => ?_⟩
  · by_cases hz : 14 + i = 14 + c
    · rw [hz, uC_s]
      have := (countP_er (p := pq 0) hj).2
      have := h.1 c hc
      omega
    · rw [uC_n hz]
      exact h.1 i hi
  · rw [ew (2 + q) (by omega)]
    have := h.2.1 q hq6
    have := e1 q
    omega
  · rw [ew 1 (by omega), e3]
    omega
  · have := h.2.1 p hp
    have := e1 p
    omega
theorem LB.upW1 {v : Mu} {b c q : Nat} {W : List Rec} (h : LB v b) (hq6 : q < 6) (h1 : W.length + hq v q ≤ 60) (h2 : W.length + b ≤ (uC v (2 + q)).length + c) : LB (upC v (2 + q) W) c := by
  have := h.upW (L := uC v 1) hq6 h1 (c := c) (by omega)
  have e : upC (upC v (2 + q) W) 1 (uC v 1) = upC v (2 + q) W := by
    have e1 : uC (upC v (2 + q) W) 1 = uC v 1 := uC_n (by omega)
    rw [← e1, upC_id]
  rw [e] at this
  exact this
theorem LB.upL {v : Mu} {b c : Nat} {L : List Rec} (h : LB v b) (h2 : L.length + b ≤ (uC v 1).length + c) : LB (upC v 1 L) c := by
  have := h.upW (q := 0) (W := uC v (2 + 0)) (L := L) (by omega) (h.2.1 0 (by omega)) (c := c) (by omega)
  rw [upC_id] at this
  exact this
theorem LB.bkk {v : Mu} {b c j q : Nat} {r : Rec} (h : LB v b) (hc : c < 4) (hj : (uC v (14 + c))[j]? = some r) (hq6 : q < 6) (hr : rQ r = nI q) : LB (bk (upC v (14 + c) ((uC v (14 + c)).eraseIdx j)) r) b := by
  obtain ⟨h0, h1, h2⟩ := h.tk hc hj
  unfold bk
  rw [hr, nI_clamp (by omega)]
  have h3 := h2 q hq6
  have h4 : pq q r = true := decide_eq_true hr
  rw [h4] at h3
  have h3 : (uC v (2 + q)).length + hq (upC v (14 + c) ((uC v (14 + c)).eraseIdx j)) q + 1 ≤ 60 := h3
  have e : uC (upC v (14 + c) ((uC v (14 + c)).eraseIdx j)) (2 + q) = uC v (2 + q) := uC_n (by omega)
  refine h1.upW1 hq6 ?_ ?_
  · rw [insR_len, e]; omega
  · rw [insR_len, e]; omega
theorem LB.stlk {v : Mu} {b c j : Nat} {r : Rec} {how : Int32} (h : LB v b) (hcq : CQ v) (hc : c < 4) (hj : (uC v (14 + c))[j]? = some r) : LB (stl (upC v (14 + c) ((uC v (14 + c)).eraseIdx j)) r how) b := by
  obtain ⟨q, hq6, hr⟩ := hcq.1 (14 + c) (by unfold isC; omega) r (List.mem_of_getElem? hj)
  obtain ⟨h0, h1, h2⟩ := h.tk hc hj
  unfold stl
  split
  · exact h.bkk hc hj hq6 hr
  · split
    · refine h1.upL ?_
      rw [List.length_append, List.length_singleton]
      omega
    · exact h1.mono (by omega)
theorem CQ.bkk {v : Mu} {r : Rec} {q : Nat} (h : CQ v) (hq6 : q < 6) (hr : rQ r = nI q) : CQ (bk v r) := by
  unfold bk
  rw [hr, nI_clamp (by omega)]
  have hi : ∀ x, x ∈ insR (uC v (2 + q)) (rBk r) → rQ x = nI q := fun x hx => by
    rcases mem_insG hx with rfl | hx
    · exact hr
    · exact h.2 q hq6 x hx
  refine h.up (fun x hx => ⟨q, hq6, hi x hx⟩) (fun p hp e x hx => ?_)
  rw [show p = q by omega]
  exact hi x hx
theorem CQ.er {v : Mu} {c j : Nat} (h : CQ v) (hc : c < 4) : CQ (upC v (14 + c) ((uC v (14 + c)).eraseIdx j)) :=
  h.up (fun x hx => h.1 (14 + c) (by unfold isC; omega) x (List.mem_of_mem_eraseIdx hx)) (fun p hp e => by omega)
theorem CQ.stlk {v : Mu} {c j : Nat} {r : Rec} {how : Int32} (h : CQ v) (hc : c < 4) (hj : (uC v (14 + c))[j]? = some r) : CQ (stl (upC v (14 + c) ((uC v (14 + c)).eraseIdx j)) r how) := by
  obtain ⟨q, hq6, hr⟩ := h.1 (14 + c) (by unfold isC; omega) r (List.mem_of_getElem? hj)
  unfold stl
  split
  · exact (h.er hc).bkk hq6 hr
  · split
    · refine (h.er hc).up (fun x hx => ?_) (fun p hp e => by omega)
      rcases List.mem_append.mp hx with hx | hx
      · exact (h.er hc).1 1 (by unfold isC; omega) x hx
      · rw [List.mem_singleton.mp hx]
        exact ⟨q, hq6, hr⟩
    · exact h.er hc
/-- bindings, rows, deeds stay -/
def Sv (v w : Mu) : Prop := w.1 = v.1 ∧ w.2.2 = v.2.2
theorem Sv.refl (v : Mu) : Sv v v := ⟨rfl, rfl⟩
theorem Sv.trans {u v w : Mu} (h1 : Sv u v) (h2 : Sv v w) : Sv u w := ⟨h2.1.trans h1.1, h2.2.trans h1.2⟩
theorem Sv.up {v : Mu} {k : Nat} {l : List Rec} : Sv v (upC v k l) := ⟨rfl, rfl⟩
theorem Sv.stlk {v : Mu} {r : Rec} {how : Int32} : Sv v (stl v r how) := by
  unfold stl
  split
  · exact Sv.up
  · split
    · exact Sv.up
    · exact Sv.refl _
/-- marked or unmarked one by one -/
def mpF (f : Rec → Rec) (l : List Rec) (i : Nat) : List Rec := (l.take i).map f ++ l.drop i
theorem mpF_0 {f : Rec → Rec} {l : List Rec} : mpF f l 0 = l := rfl
theorem mpF_n {f : Rec → Rec} {l : List Rec} : mpF f l l.length = l.map f := by
  unfold mpF
  rw [List.take_length, List.drop_length, List.append_nil]
theorem mpF_len {f : Rec → Rec} {l : List Rec} {i : Nat} : (mpF f l i).length = l.length := by
  unfold mpF
  rw [List.length_append, List.length_map, List.length_take, List.length_drop]
  omega
theorem mpF_get {f : Rec → Rec} {l : List Rec} {i : Nat} (hi : i < l.length) : (mpF f l i)[i]? = some l[i] := by
  unfold mpF
  have hl : ((l.take i).map f).length = i := by rw [List.length_map, List.length_take]; omega
  rw [List.getElem?_append_right (by omega), hl, Nat.sub_self, List.getElem?_drop, Nat.add_zero, List.getElem?_eq_getElem hi]
theorem mpF_set {f : Rec → Rec} {l : List Rec} {i : Nat} (hi : i < l.length) : (mpF f l i).set i (f l[i]) = mpF f l (i + 1) := by
  unfold mpF
  have hl : ((l.take i).map f).length = i := by rw [List.length_map, List.length_take]; omega
  rw [List.set_append_right _ _ (by omega), hl, Nat.sub_self, List.drop_eq_getElem_cons hi, List.set_cons_zero, List.take_add_one, List.getElem?_eq_getElem hi, List.map_append, List.append_assoc]
  rfl
theorem mpF_same {f : Rec → Rec} {l : List Rec} {i : Nat} (hi : i < l.length) (hf : f l[i] = l[i]) : mpF f l (i + 1) = mpF f l i := by
  rw [← mpF_set hi, hf]
  apply List.ext_getElem?
  intro j
  by_cases hj : i = j
  · subst hj
    rw [List.getElem?_set_self (by rw [mpF_len]; exact hi), mpF_get hi]
  · rw [List.getElem?_set_ne hj]
/-- settling a copy leaves what is held alone -/
theorem stl_H {v : Mu} {r : Rec} {how : Int32} {k q : Nat} (hk : 14 ≤ k) (hq6 : q < 6) (hr : rQ r = nI q) : uC (stl v r how) k = uC v k := by
  unfold stl bk
  rw [hr, nI_clamp (by omega)]
  split
  · exact uC_n (by omega)
  · split
    · exact uC_n (by omega)
    · rfl
end
section
/-! settle -/
theorem k_isSet {gc : Nat → Nat} {d a0 a c : Nat} {h : AH} {r : Rec} {tg : Int32} {wh : Bool} (ha : CpAt (14 + c) h a r) : WP gc (d + 1) 68 [.ref a0, .ref a, .int tg, .int (b2i wh)] h (fun r' h' => r' = some (.int (b2i (meant tg wh r))) ∧ h' = h) := by
  obtain ⟨m, D, w1, w2, w3⟩ := ha
  have w2 := w2 (by omega)
  subst w2
  unfold meant
  refine M68 ⟨_, _, w1, rfl, fun z => B68_10 ⟨fun z1 => B68_34 ⟨_, _, w1, rfl, fun z2 => B68_46 (B68_47 ⟨Or.inl rfl, ?_, rfl⟩), fun z2 => B68_47 ⟨Or.inr rfl, ?_, rfl⟩⟩, fun z1 => ⟨fun z2 => B68_26 (B68_47 ⟨Or.inr rfl, ?_, rfl⟩), fun z2 => ⟨_, _, w1, rfl, fun z3 => B68_30 (B68_47 ⟨Or.inl rfl, ?_, rfl⟩), fun z3 => B68_26 (B68_47 ⟨Or.inr rfl, ?_, rfl⟩)⟩⟩⟩, fun z => ⟨Or.inl rfl, ?_, rfl⟩⟩
  · rw [b2i_z.mp z1, if_neg (by decide), decide_eq_false z2, Bool.and_false]; rfl
  · rw [b2i_z.mp z1, if_neg (by decide), decide_eq_true z2, decide_eq_true z]; rfl
  · rw [b2i_nz z1, if_pos rfl, decide_eq_true z2, decide_eq_true z]; rfl
  · rw [b2i_nz z1, if_pos rfl, decide_eq_false z2, show decide (¬ tg < rT r) = false from decide_eq_false (fun w => w z3), Bool.false_or, Bool.and_false]; rfl
  · rw [b2i_nz z1, if_pos rfl, decide_eq_true z3, Bool.or_true, decide_eq_true z]; rfl
  · rw [decide_eq_false z, Bool.false_and]; rfl
theorem cset_loop {gc : Nat → Nat} {d : Nat} {h : AH} {A : Nat → Nat} {I : Nat → Int32} {v : Mu} {F : Nat} {xs : Nat → List Nat} {q : PT} {c : Nat} {tg : Int32} {wh : Bool} (hR : RX gc h A I xs xs v F) (hc : c < 4) (hl : (uC v (14 + c)).length ≤ 64) : ∀ n i k, i + n = (uC v (14 + c)).length → q (some (.int (nI (k + ((uC v (14 + c)).drop i).countP (meant tg wh))))) h → TT gc (d + 3) 67 q 5 [.ref (A (30 + c)), .int tg, .int (b2i wh), .int (nI k), .int (nI i)] [] h := by
  have hch := hR.rf.chO hc
  have hk := isC_c hc
  intro n
  induction n with
  | zero =>
    intro i k hi hq
    refine B67_5 ⟨_, _, hch, rfl, hR.lst (lt_C hk), _, rx_sizeC hR hk rfl, ?_⟩
    rintro r h' ⟨rfl, rfl⟩
    refine ⟨_, rfl, fun _ => B67_47 ?_, fun z => absurd (nI_le (by omega) (by omega)) z⟩
    rw [List.drop_eq_nil_of_le (by omega)] at hq
    exact hq
  | succ n ih =>
    intro i k hi hq
    have hil : i < (uC v (14 + c)).length := by omega
    refine B67_5 ⟨_, _, hch, rfl, hR.lst (lt_C hk), _, rx_sizeC hR hk rfl, ?_⟩
    rintro r h' ⟨rfl, rfl⟩
    refine ⟨_, rfl, fun z => absurd z (nI_ge hil (by omega)), fun _ => ⟨_, _, hch, rfl, hR.lst (lt_C hk), _, rx_getC hR hk rfl hil, ?_⟩⟩
    rintro r h2 ⟨a, rfl, rfl, -, ha⟩
    rw [List.drop_eq_getElem_cons hil, List.countP_cons] at hq
    obtain ⟨ws, hw⟩ := ha.tag
    refine ⟨_, rfl, _, hw, ⟨_, hch⟩, _, k_isSet ha, ?_⟩
    rintro r h3 ⟨rfl, rfl⟩
    refine ⟨_, rfl, fun z => B67_41 ?_, fun z => B67_41 ?_⟩
    · rw [b2i_z.mp z, if_neg (by decide)] at hq
      rw [nI_1]
      exact ih (i + 1) k (by omega) hq
    · rw [b2i_nz z, if_pos rfl] at hq
      rw [nI_1, nI_1]
      refine ih (i + 1) (k + 1) (by omega) ?_
      rw [show k + 1 + ((uC v (14 + c)).drop (i + 1)).countP (meant tg wh) = k + (((uC v (14 + c)).drop (i + 1)).countP (meant tg wh) + 1) by omega]
      exact hq
theorem k_cset {gc : Nat → Nat} {d : Nat} {h : AH} {A : Nat → Nat} {I : Nat → Int32} {v : Mu} {F : Nat} {xs : Nat → List Nat} {c : Nat} {tg : Int32} {wh : Bool} (hR : RX gc h A I xs xs v F) (hc : c < 4) (hl : (uC v (14 + c)).length ≤ 64) : WP gc (d + 4) 67 [.ref (A (30 + c)), .int tg, .int (b2i wh)] h (fun r h' => r = some (.int (nI ((uC v (14 + c)).countP (meant tg wh)))) ∧ h' = h) :=
  M67 (cset_loop hR hc hl _ 0 0 (Nat.zero_add _) ⟨by rw [Nat.zero_add]; rfl, rfl⟩)
theorem cpD {h : AH} {a m : Nat} {r : Rec} {D' : Int32} {k : Nat} (hm : MsgAt h m (rM r)) (ha : at_ h a 4 [.ref m, .int (rQ r), .int (rP r), .int (b2i (rRet r)), .int (rT r), .int (rD r)]) : CpAt k (ah_set h a (4, [.ref m, .int (rQ r), .int (rP r), .int (b2i (rRet r)), .int (rT r), .int D'])) a (rSetD r D') :=
  ⟨m, D', at_s, fun _ => rfl, at_n hm (at_ne hm ha (by decide))⟩
theorem mark_loop {gc : Nat → Nat} {d : Nat} {A : Nat → Nat} {I : Nat → Int32} {v : Mu} {F c : Nat} {q : PT} {tg D : Int32} {wh : Bool} (hc : c < 4) (hl : (uC v (14 + c)).length ≤ 64) (h0 : AH) (hq : ∀ h', RC gc h' A I (upC v (14 + c) ((uC v (14 + c)).map (mrk tg wh D))) F → KC h0 h' → q none h') : ∀ n i (h : AH), i + n = (uC v (14 + c)).length → RC gc h A I (upC v (14 + c) (mpF (mrk tg wh D) (uC v (14 + c)) i)) F → KC h0 h → TT gc (d + 3) 69 q 3 [.ref (A (30 + c)), .int tg, .int (b2i wh), .int D, .int (nI i)] [] h := by
  have hk := isC_c hc
  intro n
  induction n with
  | zero =>
    rintro i h hi ⟨xs, hX⟩ hkc
    have hch := hX.rf.chO hc
    refine B69_3 ⟨_, _, hch, rfl, hX.lst (lt_C hk), _, rx_sizeC hX hk rfl, ?_⟩
    rintro r h' ⟨rfl, rfl⟩
    rw [uC_s, mpF_len]
    refine ⟨_, rfl, fun _ => B69_58 (hq h' ⟨xs, ?_⟩ hkc), fun z => absurd (nI_le (by omega) (by omega)) z⟩
    rw [← mpF_n, show (uC v (14 + c)).length = i by omega]
    exact hX
  | succ n ih =>
    rintro i h hi ⟨xs, hX⟩ hkc
    have hch := hX.rf.chO hc
    have hil : i < (uC v (14 + c)).length := by omega
    refine B69_3 ⟨_, _, hch, rfl, hX.lst (lt_C hk), _, rx_sizeC hX hk rfl, ?_⟩
    rintro r h' ⟨rfl, rfl⟩
    have hlen : (uC (upC v (14 + c) (mpF (mrk tg wh D) (uC v (14 + c)) i)) (14 + c)).length = (uC v (14 + c)).length := by rw [uC_s, mpF_len]
    have hg : (uC (upC v (14 + c) (mpF (mrk tg wh D) (uC v (14 + c)) i)) (14 + c))[i]'(by rw [hlen]; exact hil) = (uC v (14 + c))[i] := (List.getElem_eq_iff _).mpr (by rw [uC_s]; exact mpF_get hil)
    rw [hlen]
    refine ⟨_, rfl, fun z => absurd z (nI_ge hil (by omega)), fun _ => ⟨_, _, hch, rfl, hX.lst (lt_C hk), _, rx_getC hX hk rfl (by rw [hlen]; exact hil), ?_⟩⟩
    rintro r h2 ⟨a, rfl, rfl, haj, ha⟩
    rw [hg] at ha
    obtain ⟨ws, hw⟩ := ha.tag
    refine ⟨_, rfl, _, hw, ⟨_, hch⟩, _, k_isSet ha, ?_⟩
    rintro r h3 ⟨rfl, rfl⟩
    refine ⟨_, rfl, fun z => B69_52 ?_, fun z => ⟨_, _, hch, rfl, hX.lst (lt_C hk), _, rx_getC hX hk rfl (by rw [hlen]; exact hil), ?_⟩⟩
    · rw [nI_1]
      refine ih (i + 1) h3 (by omega) ⟨xs, ?_⟩ hkc
      rw [mpF_same hil (by unfold mrk; rw [b2i_z.mp z, if_neg (by decide)])]
      exact hX
    · rintro r h4 ⟨a2, rfl, rfl, haj2, -⟩
      have hz : a2 = a := Option.some.inj (haj2.symm.trans haj)
      subst hz
      obtain ⟨m, D0, w1, w2, w3⟩ := ha
      have w2 := w2 (by omega)
      subst w2
      refine ⟨_, rfl, _, w1, _, w1, Nat.le_of_ble_eq_true rfl, trivial, ?_⟩
      rintro h5 rfl
      obtain ⟨y1, y2⟩ := hX.wrH hk haj2 w1 (cpD (D' := D) (k := 14 + c) w3 w1)
      rw [uC_s, upC_upC, show rSetD (uC v (14 + c))[i] D = mrk tg wh D (uC v (14 + c))[i] from by unfold mrk; rw [b2i_nz z, if_pos rfl], mpF_set hil] at y1
      refine B69_52 ?_
      rw [nI_1]
      exact ih (i + 1) _ (by omega) ⟨xs, y1⟩ (hkc.trans y2)
theorem k_mark {gc : Nat → Nat} {d : Nat} {h : AH} {A : Nat → Nat} {I : Nat → Int32} {v : Mu} {F : Nat} {c : Nat} {tg D : Int32} {wh : Bool} (hR : RC gc h A I v F) (hc : c < 4) (hl : (uC v (14 + c)).length ≤ 64) : WP gc (d + 4) 69 [.ref (A (30 + c)), .int tg, .int (b2i wh), .int D] h (fun r h' => r = none ∧ RC gc h' A I (upC v (14 + c) ((uC v (14 + c)).map (mrk tg wh D))) F ∧ KC h h') := by
  refine M69 (mark_loop hc hl h (fun h' q1 q2 => ⟨rfl, q1, q2⟩) _ 0 h (Nat.zero_add _) ?_ KC.refl)
  rw [mpF_0, upC_id]
  exact hR
/-! giving back -/
theorem k_back {gc : Nat → Nat} {d : Nat} {h : AH} {A : Nat → Nat} {I : Nat → Int32} {xs ys : Nat → List Nat} {v : Mu} {F : Nat} {a k q : Nat} {r : Rec} (hR : RX gc h A I xs ys v F) (ha : CpAt k h a r) (hf : free ys a) (hq6 : q < 6) (hr : rQ r = nI q) (hl : (uC v (2 + q)).length ≤ 65) : WP gc (d + 7) 72 [.ref (A 0), .ref a] h (fun r' h' => r' = none ∧ (∃ as bs, RX gc h' A I (va_up xs (2 + q) as) (va_up ys (2 + q) bs) (bk v r) F) ∧ KC h h') := by
  obtain ⟨m, D, w1, w2, w3⟩ := ha
  rw [hr] at w1
  refine M72 ⟨_, w1, Nat.le_of_ble_eq_true rfl, Or.inr rfl, ?_⟩
  rintro h2 rfl
  obtain ⟨y1, y2⟩ := hR.wrF (vs' := [.ref m, .int (nI q), .int (rP r), .int 1, .int (rT r), .int D]) hf w1
  have hcp : CpAt (2 + q) (ah_set h a (4, [.ref m, .int (nI q), .int (rP r), .int 1, .int (rT r), .int D])) a (rBk r) := ⟨m, D, by rw [show rQ (rBk r) = nI q from hr]; exact at_s, fun z => by omega, at_n w3 (at_ne w3 w1 (by decide))⟩
  obtain ⟨t, vs, g1, g2, g3, g4⟩ := y1.rf.quA hq6
  refine ⟨_, _, y1.rf.2.1, rfl, _, _, at_s, rfl, t, vs, _, g1, g2, g3, g4, ⟨_, y1.rf.quO hq6⟩, _, k_insQ y1 hq6 hl hcp hf, ?_⟩
  rintro r' h3 ⟨rfl, q1, q2⟩
  have hbk : bk v r = upC v (2 + q) (insR (uC v (2 + q)) (rBk r)) := by
    unfold bk
    rw [hr, nI_clamp (by omega)]
  rw [hbk]
  exact ⟨rfl, rfl, ⟨_, _, q1⟩, y2.trans q2.kc⟩
theorem k_setCp {gc : Nat → Nat} {d : Nat} {h : AH} {A : Nat → Nat} {I : Nat → Int32} {v : Mu} {F : Nat} {xs : Nat → List Nat} {a k q : Nat} {r : Rec} {how : Int32} (hR : RX gc h A I xs xs v F) (ha : CpAt k h a r) (hf : free xs a) (hq6 : q < 6) (hr : rQ r = nI q) (hl : (uC v (2 + q)).length ≤ 65) (hl2 : (uC v 1).length ≤ 449) : WP gc (d + 8) 71 [.ref (A 0), .ref a, .int how] h (fun r' h' => r' = none ∧ RC gc h' A I (stl v r how) F ∧ KC h h') := by
  unfold stl
  by_cases h1 : how = 1
  · rw [if_pos h1]
    refine M71 ⟨fun z => absurd h1 z, fun _ => ⟨⟨_, hR.rf.2.1⟩, _, k_back hR ha hf hq6 hr hl, ?_⟩⟩
    rintro r' h' ⟨rfl, ⟨as, bs, q1⟩, q2⟩
    refine ⟨rfl, B71_27 ⟨rfl, ?_, q2⟩⟩
    have q3 := q1.2.2.2 (2 + q) (by omega)
    rw [va_up_self, va_up_self] at q3
    rw [q3] at q1
    exact ⟨_, q1⟩
  · rw [if_neg h1]
    refine M71 ⟨fun _ => B71_13 ?_, fun z => absurd z h1⟩
    by_cases h2 : how = 2
    · rw [if_pos h2]
      refine ⟨fun z => absurd h2 z, fun _ => ⟨_, _, hR.rf.2.1, rfl, hR.lst (k := 1) (by decide), _, rx_addC (k := 1) (x := rW r) hR isC_1 rfl (by rw [if_pos rfl]; exact hl2) (ha.toW (by omega)) (fun _ => hf), ?_⟩⟩
      rintro r' h' ⟨rfl, q1, q2⟩
      exact ⟨_, rfl, B71_27 ⟨rfl, ⟨_, q1⟩, q2.kc⟩⟩
    · rw [if_neg h2]
      exact ⟨fun _ => B71_27 ⟨rfl, ⟨_, hR⟩, KC.refl⟩, fun z => absurd z h2⟩
def isDd (D : Int32) (r : Rec) : Bool := decide (rD r = D)
theorem sm_loop {gc : Nat → Nat} {d : Nat} {A : Nat → Nat} {I : Nat → Int32} {F c b : Nat} {q : PT} {D how : Int32} (hc : c < 4) (hb : b ≤ 440) (x4 : Nat) (hx4 : x4 ≤ 64) (h0 : AH) : ∀ n j i (h : AH) (v : Mu), i + n = x4 → j + n = (uC v (14 + c)).length → RC gc h A I v F → CQ v → LB v b → KC h0 h → (∀ h', RC gc h' A I (smF c (isDd D) how n j v) F → KC h0 h' → q none h') → TT gc (d + 8) 70 q 15 [.ref (A 0), .ref (A (30 + c)), .int D, .int how, .int (nI x4), .int (nI j), .int (nI i)] [] h := by
  have hk := isC_c hc
  intro n
  induction n with
  | zero =>
    intro j i h v hi hj hR hcq hlb hkc hq
    exact B70_15 ⟨fun _ => B70_70 (hq h hR hkc), fun z => absurd (nI_le (by omega) (by omega)) z⟩
  | succ n ih =>
    intro j i h v hi hj hR hcq hlb hkc hq
    obtain ⟨xs, hX⟩ := hR
    have hch := hX.rf.chO hc
    have hjl : j < (uC v (14 + c)).length := by omega
    have hs : smF c (isDd D) how (n + 1) j v = (match (uC v (14 + c))[j]? with
    | none => v
    | some r => if isDd D r then smF c (isDd D) how n j (stl (upC v (14 + c) ((uC v (14 + c)).eraseIdx j)) r how) else smF c (isDd D) how n (j + 1) v) := rfl
    have hgj := List.getElem?_eq_getElem hjl
    rw [hgj] at hs
    dsimp only at hs
    refine B70_15 ⟨fun z => absurd z (nI_ge (by omega) (by omega)), fun _ => ⟨_, _, hch, rfl, hX.lst (lt_C hk), _, rx_getC hX hk rfl hjl, ?_⟩⟩
    rintro r h2 ⟨a, rfl, rfl, haj, ha⟩
    obtain ⟨m, D0, w1, w2, w3⟩ := ha
    have w2 := w2 (by omega)
    subst w2
    refine ⟨_, rfl, _, w1, _, _, w1, rfl, fun z => B70_61 (B70_64 ?_), fun z => ⟨_, _, hch, rfl, hX.lst (lt_C hk), _, rx_rmC hX hk rfl hjl, ?_⟩⟩
    · rw [nI_1, nI_1]
      rw [show isDd D (uC v (14 + c))[j] = false from decide_eq_false z, if_neg (by decide)] at hs
      refine ih (j + 1) (i + 1) h2 v (by omega) (by omega) ⟨xs, hX⟩ hcq hlb hkc (fun h' q1 q2 => hq h' ?_ q2)
      rw [hs]
      exact q1
    · rw [show isDd D (uC v (14 + c))[j] = true from decide_eq_true z, if_pos rfl] at hs
      rintro r h3 ⟨a2, rfl, y1, y2, y3, ha2⟩
      have hfr := (hX.2.2.1.er hk y3).2
      obtain ⟨w, hw6, hwr⟩ := hcq.1 (14 + c) hk _ (List.getElem_mem hjl)
      obtain ⟨h0b, htk, -⟩ := hlb.tk hc hgj
      obtain ⟨ws, hw⟩ := ha2.tag
      have hl3 := htk.w (q := w) hw6
      have hl4 := htk.2.2
      refine ⟨_, rfl, _, hw, ⟨_, y1.rf.2.1⟩, _, k_setCp y1 ha2 hfr hw6 hwr (by omega) (by omega), ?_⟩
      rintro r h4 ⟨rfl, q1, q2⟩
      refine ⟨rfl, B70_64 ?_⟩
      rw [nI_1]
      refine ih j (i + 1) h4 _ (by omega) ?_ q1 (hcq.stlk hc hgj) (hlb.stlk hcq hc hgj) ((hkc.trans y2.kc).trans q2) (fun h' q3 q4 => hq h' ?_ q4)
      · rw [stl_H (by omega) hw6 hwr, uC_s]
        have := (countP_er (p := pq 0) hgj).2
        omega
      · rw [hs]
        exact q3
theorem k_sm {gc : Nat → Nat} {d : Nat} {h : AH} {A : Nat → Nat} {I : Nat → Int32} {v : Mu} {F : Nat} {c b : Nat} {D how : Int32} (hR : RC gc h A I v F) (hc : c < 4) (hb : b ≤ 440) (hcq : CQ v) (hlb : LB v b) : WP gc (d + 9) 70 [.ref (A 0), .ref (A (30 + c)), .int D, .int how] h (fun r h' => r = none ∧ RC gc h' A I (smF c (isDd D) how (uC v (14 + c)).length 0 v) F ∧ KC h h') := by
  obtain ⟨xs, hX⟩ := hR
  have hch := hX.rf.chO hc
  have hk := isC_c hc
  refine M70 ⟨_, _, hch, rfl, hX.lst (lt_C hk), _, rx_sizeC hX hk rfl, ?_⟩
  rintro r h' ⟨rfl, rfl⟩
  have := hlb.1 c hc
  exact ⟨_, rfl, sm_loop hc hb _ (by omega) h' _ 0 0 h' v (Nat.zero_add _) (Nat.zero_add _) ⟨xs, hX⟩ hcq hlb KC.refl (fun h2 q1 q2 => ⟨rfl, q1, q2⟩)⟩
end
section
/-! settle, rollback, commit -/
theorem LB.mapH {v : Mu} {b c : Nat} {f : Rec → Rec} (h : LB v b) (hc : c < 4) (hf : ∀ r, rQ (f r) = rQ r) : LB (upC v (14 + c) ((uC v (14 + c)).map f)) b := by
  have ew : ∀ k, k < 8 → uC (upC v (14 + c) ((uC v (14 + c)).map f)) k = uC v k := fun k hk => uC_n (by omega)
  have e1 : ∀ p, hq (upC v (14 + c) ((uC v (14 + c)).map f)) p = hq v p := fun p => by
    have h1 := sum_up (f := v.2.1) (g := fun l => l.countP (pq p)) (o := 14) (i := c) (n := 4) (l := (uC v (14 + c)).map f) hc
    have h1 : hq (upC v (14 + c) ((uC v (14 + c)).map f)) p + (uC v (14 + c)).countP (pq p) = hq v p + ((uC v (14 + c)).map f).countP (pq p) := h1
    have h2 : ((uC v (14 + c)).map f).countP (pq p) = (uC v (14 + c)).countP (pq p) := by
      rw [List.countP_map]
      congr 1
      funext r
      show pq p (f r) = pq p r
      unfold pq
      rw [hf]
    omega
  have e2 : sh (upC v (14 + c) ((uC v (14 + c)).map f)) = sh v := by
    have h1 := sum_up (f := v.2.1) (g := List.length) (o := 14) (i := c) (n := 4) (l := (uC v (14 + c)).map f) hc
    have h1 : sh (upC v (14 + c) ((uC v (14 + c)).map f)) + (uC v (14 + c)).length = sh v + ((uC v (14 + c)).map f).length := h1
    rw [List.length_map] at h1
    omega
  have e3 : sw (upC v (14 + c) ((uC v (14 + c)).map f)) = sw v := sumTo_cg 6 (fun q hq6 => by rw [ew (2 + q) (by omega)])
  refine ⟨fun i hi => ?_, fun q hq6 => ?_, ?_⟩
  · by_cases hz : 14 + i = 14 + c
    · rw [hz, uC_s, List.length_map]
      exact h.1 c hc
    · rw [uC_n hz]
      exact h.1 i hi
  · rw [ew (2 + q) (by omega), e1]
    exact h.2.1 q hq6
  · rw [ew 1 (by omega), e2, e3]
    exact h.2.2
theorem CQ.mapH {v : Mu} {c : Nat} {f : Rec → Rec} (h : CQ v) (hc : c < 4) (hf : ∀ r, rQ (f r) = rQ r) : CQ (upC v (14 + c) ((uC v (14 + c)).map f)) :=
  h.up (fun x hx => by
    obtain ⟨y, hy, rfl⟩ := List.mem_map.mp hx
    rw [hf]
    exact h.1 (14 + c) (by unfold isC; omega) y hy) (fun p hp e => by omega)
theorem sm_keep {c b : Nat} {P : Rec → Bool} {how : Int32} (hc : c < 4) : ∀ n j (v : Mu), CQ v → LB v b → CQ (smF c P how n j v) ∧ LB (smF c P how n j v) b ∧ Sv v (smF c P how n j v) := by
  intro n
  induction n with
  | zero => intro j v h1 h2; exact ⟨h1, h2, Sv.refl v⟩
  | succ n ih =>
    intro j v h1 h2
    unfold smF
    split
    · exact ⟨h1, h2, Sv.refl v⟩
    · rename_i r hr
      split
      · obtain ⟨g1, g2, g3⟩ := ih j _ (h1.stlk (how := how) hc hr) (h2.stlk h1 hc hr)
        exact ⟨g1, g2, (Sv.up.trans Sv.stlk).trans g3⟩
      · exact ih (j + 1) v h1 h2
def stC (x1 tg : Int32) (wh : Bool) (how : Int32) : Bool := wi x1 0 3 && (decide (¬ tg < 0) && ((decide (¬ tg = 0) || wh) && wi how 0 2))
def opSt (s : St) (x1 tg : Int32) (wh : Bool) (how : Int32) : Int32 × St :=
  if stC x1 tg wh how then
    (fun c : Nat => if (uC s.2 (14 + c)).countP (meant tg wh) = 0 then (-1, s)
      else if s.1 (301 + 10 * c) = 0 then (nI ((uC s.2 (14 + c)).countP (meant tg wh)), opRl (s.1, smF c (isDd (nI (uD s.2 (18 + c)).length)) how (uC s.2 (14 + c)).length 0 (upC s.2 (14 + c) ((uC s.2 (14 + c)).map (mrk tg wh (nI (uD s.2 (18 + c)).length))))))
      else if (uD s.2 (18 + c)).length < 4 then (100, (s.1, upD (upC s.2 (14 + c) ((uC s.2 (14 + c)).map (mrk tg wh (nI (uD s.2 (18 + c)).length)))) (18 + c) (uD s.2 (18 + c) ++ [(-1, none, how)])))
      else (-2, s)) x1.toNatClampNeg
  else (-1, s)
theorem mrk_Q {tg : Int32} {wh : Bool} {D : Int32} (r : Rec) : rQ (mrk tg wh D r) = rQ r := by
  unfold mrk
  split <;> rfl
theorem k_settle {gc : Nat → Nat} {d : Nat} {h : AH} {A : Nat → Nat} {I : Nat → Int32} {v : Mu} {F : Nat} {x1 tg how : Int32} {wh : Bool} (hR : RC gc h A I v (F + 21)) (hB : (uB v 0).length ≤ 64) (hn : NOK I) (hcq : CQ v) (hb : LB v 360) (hD : ∀ c, c < 4 → (uD v (18 + c)).length ≤ 4) : WP gc (d + 10) 66 [.ref (A 0), .int x1, .int tg, .int (b2i wh), .int how] h (fun r h' => r = some (.int (opSt (I, v) x1 tg wh how).1) ∧ RC gc h' A (opSt (I, v) x1 tg wh how).2.1 (opSt (I, v) x1 tg wh how).2.2 F ∧ KC h h') := by
  have hF := hR.rf
  have bad : stC x1 tg wh how = false → (some (Value.int (-1)) = some (Value.int (opSt (I, v) x1 tg wh how).1) ∧ RC gc h A (opSt (I, v) x1 tg wh how).2.1 (opSt (I, v) x1 tg wh how).2.2 F ∧ KC h h) := fun hb => by
    unfold opSt
    rw [hb, if_neg (by decide)]
    exact ⟨rfl, hR.le (by omega), KC.refl⟩
  have b29 : stC x1 tg wh how = false → TT gc (d + 9) 66 (fun r h' => r = some (.int (opSt (I, v) x1 tg wh how).1) ∧ RC gc h' A (opSt (I, v) x1 tg wh how).2.1 (opSt (I, v) x1 tg wh how).2.2 F ∧ KC h h') 29 [.ref (A 0), .int x1, .int tg, .int (b2i wh), .int how, .retAddr 0, .retAddr 0, .retAddr 0] [] h := fun z => B66_29 (bad z)
  have b19 : wi x1 0 3 = true → ¬ tg < 0 → (decide (¬ tg = 0) || wh) = true → TT gc (d + 9) 66 (fun r h' => r = some (.int (opSt (I, v) x1 tg wh how).1) ∧ RC gc h' A (opSt (I, v) x1 tg wh how).2.1 (opSt (I, v) x1 tg wh how).2.2 F ∧ KC h h') 19 [.ref (A 0), .int x1, .int tg, .int (b2i wh), .int how, .retAddr 0, .retAddr 0, .retAddr 0] [] h := fun z1 z2 z3 => by
    refine B66_19 ⟨_, k_isWithin, ?_⟩
    rintro r h' ⟨rfl, rfl⟩
    refine ⟨_, rfl, fun z4 => B66_31 ?_, fun z => b29 ?_⟩
    rotate_left
    · unfold stC
      rw [show wi how 0 2 = false from b2i_z.mp z, Bool.and_false, Bool.and_false, Bool.and_false]
    have z4 : wi how 0 2 = true := b2i_nz z4
    have hst : stC x1 tg wh how = true := by
      unfold stC
      rw [z1, z3, z4, decide_eq_true z2]
      rfl
    obtain ⟨c, hc, rfl⟩ := wi_rng (n := 3) (by decide) z1
    obtain ⟨xs, hX⟩ := hR
    have hk := isC_c hc
    have hH := hb.1 c hc
    have hdc := hD c hc
    have ho : opSt (I, v) (nI c) tg wh how = (if (uC v (14 + c)).countP (meant tg wh) = 0 then (-1, (I, v))
      else if I (301 + 10 * c) = 0 then (nI ((uC v (14 + c)).countP (meant tg wh)), opRl (I, smF c (isDd (nI (uD v (18 + c)).length)) how (uC v (14 + c)).length 0 (upC v (14 + c) ((uC v (14 + c)).map (mrk tg wh (nI (uD v (18 + c)).length))))))
      else if (uD v (18 + c)).length < 4 then (100, (I, upD (upC v (14 + c) ((uC v (14 + c)).map (mrk tg wh (nI (uD v (18 + c)).length)))) (18 + c) (uD v (18 + c) ++ [(-1, none, how)])))
      else (-2, (I, v))) := by
      unfold opSt
      rw [hst, if_pos rfl, nI_clamp (by omega)]
    obtain ⟨t, vs, g1, g2, g3, g4⟩ := hX.rf.chA hc
    have hch := hX.rf.chO hc
    refine ⟨_, _, hX.rf.2.1, rfl, t, vs, _, g1, g2, g3, g4, ⟨_, hch⟩, _, k_cset hX hc (by omega), ?_⟩
    rintro r h2 ⟨rfl, rfl⟩
    have hcn : (uC v (14 + c)).countP (meant tg wh) ≤ (uC v (14 + c)).length := List.countP_le_length
    refine ⟨_, rfl, fun zn => B66_55 ?_, fun zn => ?_⟩
    rotate_left
    · rw [if_pos ((nI_z (by omega)).mp zn)] at ho
      rw [ho]
      exact ⟨rfl, RC.le ⟨xs, hX⟩ (by omega), KC.refl⟩
    rw [if_neg (fun w => zn (by rw [w]; rfl))] at ho
    rw [ho]
    have b78 : (¬ I (301 + 10 * c) = 0 → (uD v (18 + c)).length < 4) → TT gc (d + 9) 66 (fun r h' => r = some (.int (if I (301 + 10 * c) = 0 then (nI ((uC v (14 + c)).countP (meant tg wh)), opRl (I, smF c (isDd (nI (uD v (18 + c)).length)) how (uC v (14 + c)).length 0 (upC v (14 + c) ((uC v (14 + c)).map (mrk tg wh (nI (uD v (18 + c)).length))))))
      else if (uD v (18 + c)).length < 4 then (100, (I, upD (upC v (14 + c) ((uC v (14 + c)).map (mrk tg wh (nI (uD v (18 + c)).length)))) (18 + c) (uD v (18 + c) ++ [(-1, none, how)])))
      else (-2, (I, v)) : Int32 × St).1) ∧ RC gc h' A (if I (301 + 10 * c) = 0 then (nI ((uC v (14 + c)).countP (meant tg wh)), opRl (I, smF c (isDd (nI (uD v (18 + c)).length)) how (uC v (14 + c)).length 0 (upC v (14 + c) ((uC v (14 + c)).map (mrk tg wh (nI (uD v (18 + c)).length))))))
      else if (uD v (18 + c)).length < 4 then (100, (I, upD (upC v (14 + c) ((uC v (14 + c)).map (mrk tg wh (nI (uD v (18 + c)).length)))) (18 + c) (uD v (18 + c) ++ [(-1, none, how)])))
      else (-2, (I, v)) : Int32 × St).2.1 (if I (301 + 10 * c) = 0 then (nI ((uC v (14 + c)).countP (meant tg wh)), opRl (I, smF c (isDd (nI (uD v (18 + c)).length)) how (uC v (14 + c)).length 0 (upC v (14 + c) ((uC v (14 + c)).map (mrk tg wh (nI (uD v (18 + c)).length))))))
      else if (uD v (18 + c)).length < 4 then (100, (I, upD (upC v (14 + c) ((uC v (14 + c)).map (mrk tg wh (nI (uD v (18 + c)).length)))) (18 + c) (uD v (18 + c) ++ [(-1, none, how)])))
      else (-2, (I, v)) : Int32 × St).2.2 F ∧ KC h2 h') 78 [.ref (A 0), .int (nI c), .int tg, .int (b2i wh), .int how, .ref (A (30 + c)), .int (nI ((uC v (14 + c)).countP (meant tg wh))), .retAddr 0] [] h2 := fun hdd => by
      refine B66_78 ⟨_, _, hch, rfl, hX.lst (lt_D (isD_c hc)), _, rx_sizeD hX (isD_c hc) rfl, ?_⟩
      rintro r h3 ⟨rfl, rfl⟩
      refine ⟨_, rfl, ⟨_, hch⟩, _, k_mark ⟨xs, hX⟩ hc (by omega), ?_⟩
      rintro r h4 ⟨rfl, ⟨xs4, y1⟩, y2⟩
      refine ⟨rfl, _, _, y1.rf.chO hc, rfl, fun z => B66_128 ?_, fun z => ?_⟩
      · rw [if_pos z]
        have hl1 := hb.mapH (f := mrk tg wh (nI (uD v (18 + c)).length)) hc mrk_Q
        have hc1 := hcq.mapH (f := mrk tg wh (nI (uD v (18 + c)).length)) hc mrk_Q
        have hlen : (uC (upC v (14 + c) ((uC v (14 + c)).map (mrk tg wh (nI (uD v (18 + c)).length)))) (14 + c)).length = (uC v (14 + c)).length := by rw [uC_s, List.length_map]
        have hks := k_sm (d := d) (c := c) (D := nI (uD v (18 + c)).length) (how := how) ⟨xs4, y1⟩ hc (b := 360) (by omega) hc1 hl1
        rw [hlen] at hks
        obtain ⟨e1, e2, e3⟩ := sm_keep (c := c) (b := 360) (P := isDd (nI (uD v (18 + c)).length)) (how := how) hc (uC v (14 + c)).length 0 _ hc1 hl1
        refine ⟨⟨_, y1.rf.2.1⟩, _, hks, ?_⟩
        rintro r h5 ⟨rfl, y3, y4⟩
        have hB2 : (uB (smF c (isDd (nI (uD v (18 + c)).length)) how (uC v (14 + c)).length 0 (upC v (14 + c) ((uC v (14 + c)).map (mrk tg wh (nI (uD v (18 + c)).length))))) 0).length ≤ 64 := by
          have : uB (smF c (isDd (nI (uD v (18 + c)).length)) how (uC v (14 + c)).length 0 (upC v (14 + c) ((uC v (14 + c)).map (mrk tg wh (nI (uD v (18 + c)).length))))) 0 = uB v 0 := congrFun e3.1 0
          rw [this]
          exact hB
        refine ⟨rfl, ⟨_, y3.rf.2.1⟩, _, k_rl (b := 360) y3 hB2 hn e1 e2 (by omega), ?_⟩
        rintro r h6 ⟨rfl, y5, y6⟩
        exact ⟨rfl, rfl, y5, (y2.trans y4).trans y6⟩
      · rw [if_neg z, if_pos (hdd z)]
        have y1 : RX gc h4 A I xs4 xs4 (upC v (14 + c) ((uC v (14 + c)).map (mrk tg wh (nI (uD v (18 + c)).length)))) (F + 20 + 1) := y1
        obtain ⟨o1, o2, o3, o4, o5⟩ := y1.new (t := 5) (vs := [.int (-1), .null, .int how]) (Nat.le_of_ble_eq_true rfl)
        refine ⟨_, _, y1.rf.chO hc, rfl, o2, Nat.le_trans (by decide) o3, ?_⟩
        rintro _ _ rfl rfl
        refine ⟨_, k_newDn, ?_⟩
        rintro r h5 ⟨rfl, rfl⟩
        have hdd2 : DdAt (ah_new h4 (5, [.int (-1), .null, .int how])) h4.1 (-1, none, how) := at_new
        refine ⟨rfl, o1.lst (lt_D (isD_c hc)), _, rx_addD o1 (isD_c hc) rfl (by rw [if_neg (by omega)]; exact Nat.le_trans hdc (by decide)) hdd2 (fun w => absurd w (by unfold isC; omega)), ?_⟩
        rintro r h6 ⟨rfl, y7, y8⟩
        exact ⟨_, rfl, rfl, RC.le ⟨_, y7⟩ (by omega), (y2.trans o4).trans y8.kc⟩
    refine ⟨_, _, hch, rfl, fun z => b78 (fun w => absurd z w), fun z => ⟨_, _, hch, rfl, hX.lst (lt_D (isD_c hc)), _, rx_sizeD hX (isD_c hc) rfl, ?_⟩⟩
    rintro r h3 ⟨rfl, rfl⟩
    refine ⟨_, rfl, pk_lt (uD v (18 + c)).length 4 (fun hl => b78 (fun _ => hl)) (fun hl => ?_)⟩
    rw [if_neg z, if_neg (by omega)]
    exact ⟨rfl, RC.le ⟨xs, hX⟩ (by omega), KC.refl⟩
  refine M66 ⟨_, k_isChannel, ?_⟩
  rintro r h' ⟨rfl, rfl⟩
  refine ⟨_, rfl, fun z => b29 ?_, fun z1 => ⟨fun z => b29 ?_, fun z2 => ⟨fun z3 => b19 (b2i_nz z1) z2 ?_, fun z3 => ⟨fun z => b29 ?_, fun z4 => b19 (b2i_nz z1) z2 ?_⟩⟩⟩⟩
  · unfold stC
    rw [show wi x1 0 3 = false from b2i_z.mp z, Bool.false_and]
  · unfold stC
    rw [show decide (¬ tg < 0) = false from decide_eq_false (fun w => w z), Bool.false_and, Bool.and_false]
  · rw [decide_eq_true z3, Bool.true_or]
  · unfold stC
    rw [b2i_z.mp z, show decide (¬ tg = 0) = false from decide_eq_false (fun w => w z3), Bool.false_or, Bool.false_and, Bool.and_false, Bool.and_false]
  · rw [b2i_nz z4, Bool.or_true]
end
section
/-! forget, rollback, commit -/
def un (r : Rec) : Rec := rSetD r (-1)
theorem un_loop {gc : Nat → Nat} {d : Nat} {A : Nat → Nat} {I : Nat → Int32} {v : Mu} {F c : Nat} {q : PT} (hc : c < 4) (hl : (uC v (14 + c)).length ≤ 64) (h0 : AH) (hq : ∀ h', RC gc h' A I (upC v (14 + c) ((uC v (14 + c)).map un)) F → KC h0 h' → q none h') : ∀ n i (h : AH), i + n = (uC v (14 + c)).length → RC gc h A I (upC v (14 + c) (mpF un (uC v (14 + c)) i)) F → KC h0 h → TT gc (d + 3) 77 q 9 [.ref (A (30 + c)), .int (nI i)] [] h := by
  have hk := isC_c hc
  intro n
  induction n with
  | zero =>
    rintro i h hi ⟨xs, hX⟩ hkc
    have hch := hX.rf.chO hc
    refine B77_9 ⟨_, _, hch, rfl, hX.lst (lt_C hk), _, rx_sizeC hX hk rfl, ?_⟩
    rintro r h' ⟨rfl, rfl⟩
    rw [uC_s, mpF_len]
    refine ⟨_, rfl, fun _ => B77_41 (hq h' ⟨xs, ?_⟩ hkc), fun z => absurd (nI_le (by omega) (by omega)) z⟩
    rw [← mpF_n, show (uC v (14 + c)).length = i by omega]
    exact hX
  | succ n ih =>
    rintro i h hi ⟨xs, hX⟩ hkc
    have hch := hX.rf.chO hc
    have hil : i < (uC v (14 + c)).length := by omega
    refine B77_9 ⟨_, _, hch, rfl, hX.lst (lt_C hk), _, rx_sizeC hX hk rfl, ?_⟩
    rintro r h' ⟨rfl, rfl⟩
    have hlen : (uC (upC v (14 + c) (mpF un (uC v (14 + c)) i)) (14 + c)).length = (uC v (14 + c)).length := by rw [uC_s, mpF_len]
    have hg : (uC (upC v (14 + c) (mpF un (uC v (14 + c)) i)) (14 + c))[i]'(by rw [hlen]; exact hil) = (uC v (14 + c))[i] := (List.getElem_eq_iff _).mpr (by rw [uC_s]; exact mpF_get hil)
    rw [hlen]
    refine ⟨_, rfl, fun z => absurd z (nI_ge hil (by omega)), fun _ => ⟨_, _, hch, rfl, hX.lst (lt_C hk), _, rx_getC hX hk rfl (by rw [hlen]; exact hil), ?_⟩⟩
    rintro r h2 ⟨a, rfl, rfl, haj, ha⟩
    rw [hg] at ha
    obtain ⟨m, D0, w1, w2, w3⟩ := ha
    have w2 := w2 (by omega)
    subst w2
    refine ⟨_, rfl, _, w1, _, w1, Nat.le_of_ble_eq_true rfl, trivial, ?_⟩
    rintro h5 rfl
    obtain ⟨y1, y2⟩ := hX.wrH hk haj w1 (cpD (D' := -1) (k := 14 + c) w3 w1)
    rw [uC_s, upC_upC, show rSetD (uC v (14 + c))[i] (-1) = un (uC v (14 + c))[i] from rfl, mpF_set hil] at y1
    rw [nI_1]
    exact ih (i + 1) _ (by omega) ⟨xs, y1⟩ (hkc.trans y2)
def fgt (c : Nat) (v : Mu) : Mu := upC (upD v (18 + c) []) (14 + c) ((uC v (14 + c)).map un)
theorem k_fgt {gc : Nat → Nat} {d : Nat} {h : AH} {A : Nat → Nat} {I : Nat → Int32} {v : Mu} {F : Nat} {c : Nat} (hR : RC gc h A I v F) (hc : c < 4) (hl : (uC v (14 + c)).length ≤ 64) : WP gc (d + 4) 77 [.ref (A (30 + c))] h (fun r h' => r = none ∧ RC gc h' A I (fgt c v) F ∧ KC h h') := by
  obtain ⟨xs, hX⟩ := hR
  have hch := hX.rf.chO hc
  refine M77 ⟨_, _, hch, rfl, hX.lst (lt_D (isD_c hc)), _, rx_clrD hX (isD_c hc), ?_⟩
  rintro r h1 ⟨rfl, y1, y2⟩
  refine ⟨rfl, un_loop (v := upD v (18 + c) []) hc hl h1 (fun h' q1 q2 => ⟨rfl, q1, y2.kc.trans q2⟩) _ 0 h1 (Nat.zero_add _) ?_ KC.refl⟩
  rw [mpF_0, upC_id]
  exact ⟨_, y1⟩
def opRb (s : St) (x : Int32) : Int32 × St :=
  if wi x 0 3 then (if s.1 (301 + 10 * x.toNatClampNeg) = 0 then (-3, s) else (nI (uD s.2 (18 + x.toNatClampNeg)).length, (s.1, fgt x.toNatClampNeg s.2))) else (-1, s)
theorem k_rollback {gc : Nat → Nat} {d : Nat} {h : AH} {A : Nat → Nat} {I : Nat → Int32} {v : Mu} {F : Nat} {x : Int32} (hR : RC gc h A I v F) (hb : LB v 360) : WP gc (d + 5) 78 [.ref (A 0), .int x] h (fun r h' => r = some (.int (opRb (I, v) x).1) ∧ RC gc h' A (opRb (I, v) x).2.1 (opRb (I, v) x).2.2 F ∧ KC h h') := by
  obtain ⟨xs, hX⟩ := hR
  have hF := hX.rf
  refine M78 ⟨_, k_isChannel, ?_⟩
  rintro r h' ⟨rfl, rfl⟩
  refine ⟨_, rfl, fun z => B78_9 ?_, fun z => ?_⟩
  rotate_left
  · unfold opRb
    rw [show wi x 0 3 = false from b2i_z.mp z, if_neg (by decide)]
    exact ⟨rfl, ⟨xs, hX⟩, KC.refl⟩
  have z : wi x 0 3 = true := b2i_nz z
  obtain ⟨c, hc, rfl⟩ := wi_rng (n := 3) (by decide) z
  have ho : opRb (I, v) (nI c) = (if I (301 + 10 * c) = 0 then (-3, (I, v)) else (nI (uD v (18 + c)).length, (I, fgt c v))) := by
    unfold opRb
    rw [z, if_pos rfl, nI_clamp (by omega)]
  rw [ho]
  have hH := hb.1 c hc
  obtain ⟨t, vs, g1, g2, g3, g4⟩ := hF.chA hc
  have hch := hF.chO hc
  refine ⟨_, _, hF.2.1, rfl, t, vs, _, g1, g2, g3, g4, _, _, hch, rfl, fun z2 => B78_24 ⟨_, _, hF.2.1, rfl, t, vs, _, g1, g2, g3, g4, _, _, hch, rfl, hX.lst (lt_D (isD_c hc)), _, rx_sizeD hX (isD_c hc) rfl, ?_⟩, fun z2 => ?_⟩
  · rintro r h2 ⟨rfl, rfl⟩
    refine ⟨_, rfl, _, _, hF.2.1, rfl, t, vs, _, g1, g2, g3, g4, ⟨_, hch⟩, _, k_fgt ⟨xs, hX⟩ hc (by omega), ?_⟩
    rintro r h3 ⟨rfl, q1, q2⟩
    rw [if_neg z2]
    exact ⟨rfl, rfl, q1, q2⟩
  · rw [if_pos z2]
    exact ⟨rfl, ⟨xs, hX⟩, KC.refl⟩
/-- one deed -/
def opDd (c k : Nat) (s : St) : St := match (uD s.2 (18 + c))[k]? with
  | none => s
  | some dd => match dd.2.1 with
    | none => (s.1, smF c (isDd (nI k)) dd.2.2 (uC s.2 (14 + c)).length 0 s.2)
    | some m => if isEx s.1 dd.1 then opRt s dd.1.toNatClampNeg m else s
def ddF (c : Nat) : Nat → Nat → St → St
  | 0, _, s => s
  | n + 1, k, s => ddF c n (k + 1) (opDd c k s)
theorem dd_keep {s : St} {c k b : Nat} (hc : c < 4) (hn : NOK s.1) (hcq : CQ s.2) (hb : LB s.2 b) : NOK (opDd c k s).1 ∧ CQ (opDd c k s).2 ∧ LB (opDd c k s).2 (b + 6) ∧ (opDd c k s).2.1 = s.2.1 ∧ (opDd c k s).2.2.2 = s.2.2.2 := by
  cases hg : (uD s.2 (18 + c))[k]? with
  | none =>
    have ho : opDd c k s = s := by
      unfold opDd
      rw [hg]
    rw [ho]
    exact ⟨hn, hcq, hb.mono (by omega), rfl, rfl⟩
  | some dd =>
    obtain ⟨e, om, how⟩ := dd
    cases om with
    | none =>
      have ho : opDd c k s = (s.1, smF c (isDd (nI k)) how (uC s.2 (14 + c)).length 0 s.2) := by
        unfold opDd
        rw [hg]
      rw [ho]
      obtain ⟨e1, e2, e3⟩ := sm_keep (c := c) (b := b) (P := isDd (nI k)) (how := how) hc (uC s.2 (14 + c)).length 0 s.2 hcq hb
      exact ⟨hn, e1, e2.mono (by omega), e3.1, e3.2⟩
    | some m =>
      by_cases hx : isEx s.1 e = true
      · have ho : opDd c k s = opRt s e.toNatClampNeg m := by
          unfold opDd
          rw [hg]
          dsimp only
          rw [if_pos hx]
        rw [ho]
        have hsm := Sm.rt (e := e.toNatClampNeg) (m := m) 6 0 s (by omega)
        have h1 := CQ.rt (e := e.toNatClampNeg) (m := m) 6 0 s (by omega) hcq
        have h2 := LB.rt (e := e.toNatClampNeg) (m := m) 6 0 s b (by omega) hn hb
        exact ⟨hsm.nok hn, h1, h2, hsm.2.1, hsm.2.2.1⟩
      · have ho : opDd c k s = s := by
          unfold opDd
          rw [hg]
          dsimp only
          rw [if_neg hx]
        rw [ho]
        exact ⟨hn, hcq, hb.mono (by omega), rfl, rfl⟩
theorem k_dd {gc : Nat → Nat} {d : Nat} {h : AH} {A : Nat → Nat} {I : Nat → Int32} {v : Mu} {F : Nat} {c k b : Nat} (hR : RC gc h A I v (F + 6)) (hc : c < 4) (hk : k < (uD v (18 + c)).length) (hB : (uB v 0).length ≤ 64) (hn : NOK I) (hcq : CQ v) (hb : LB v b) (hb2 : b ≤ 424) : WP gc (d + 10) 76 [.ref (A 0), .ref (A (30 + c)), .int (nI k)] h (fun r h' => r = none ∧ RC gc h' A (opDd c k (I, v)).1 (opDd c k (I, v)).2 F ∧ KC h h') := by
  obtain ⟨xs, hX⟩ := hR
  have hch := hX.rf.chO hc
  have hkd := isD_c hc
  have ho : opDd c k (I, v) = (match (uD v (18 + c))[k]? with
  | none => (I, v)
  | some dd => match dd.2.1 with
    | none => (I, smF c (isDd (nI k)) dd.2.2 (uC v (14 + c)).length 0 v)
    | some m => if isEx I dd.1 then opRt (I, v) dd.1.toNatClampNeg m else (I, v)) := rfl
  rw [List.getElem?_eq_getElem hk] at ho
  refine M76 ⟨_, _, hch, rfl, hX.lst (lt_D hkd), _, rx_getD hX hkd rfl hk, ?_⟩
  rintro r h2 ⟨a, rfl, rfl, -, ha⟩
  generalize (uD v (18 + c))[k] = dd at ha ho
  obtain ⟨e, om, how⟩ := dd
  cases om with
  | none =>
    have ha : at_ h2 a 5 [.int e, .null, .int how] := ha
    refine ⟨_, rfl, _, ha, Or.inl ⟨_, ha, rfl, _, _, ha, rfl, ⟨_, hX.rf.2.1⟩, _, k_sm ⟨xs, hX⟩ hc (b := b) (by omega) hcq hb, ?_⟩⟩
    rintro r h3 ⟨rfl, q1, q2⟩
    refine ⟨rfl, B76_55 ?_⟩
    rw [ho]
    exact ⟨rfl, RC.le q1 (by omega), q2⟩
  | some m =>
    obtain ⟨ma, ha, hm⟩ := ha
    refine ⟨_, rfl, _, ha, Or.inr ⟨_, _, ha, rfl, B76_32 ⟨_, _, ha, rfl, ⟨_, hX.rf.2.1⟩, _, k_isE hX.rf, ?_⟩⟩⟩
    rintro r h3 ⟨rfl, rfl⟩
    refine ⟨_, rfl, fun z => B76_55 ?_, fun z => ⟨_, _, ha, rfl, Or.inr ⟨_, _, ha, rfl, ⟨_, hX.rf.2.1⟩, ?_⟩⟩⟩
    · rw [ho]
      dsimp only
      rw [b2i_z.mp z, if_neg (by decide)]
      exact ⟨rfl, RC.le ⟨xs, hX⟩ (by omega), KC.refl⟩
    · have z := b2i_nz z
      dsimp only at ho
      rw [z, if_pos rfl] at ho
      obtain ⟨e', he, rfl⟩ := isEx_rng z
      rw [nI_clamp (by omega)] at ho
      refine ⟨_, k_route (b := b) ⟨xs, hX⟩ he hB hn hb hb2 hm, ?_⟩
      rintro r h4 ⟨rfl, q1, q2, -⟩
      refine ⟨rfl, B76_55 ?_⟩
      rw [ho]
      exact ⟨rfl, q1, q2⟩
theorem cm_loop {gc : Nat → Nat} {d : Nat} {A : Nat → Nat} {q : PT} {c N : Nat} {x1 : Int32} (hc : c < 4) (hN : N ≤ 4) (h0 : AH) : ∀ n k (h : AH) (I : Nat → Int32) (v : Mu) (F b : Nat), k + n = N → (uD v (18 + c)).length = N → RC gc h A I v (F + 6 * n) → (uB v 0).length ≤ 64 → NOK I → CQ v → LB v b → b + 6 * n ≤ 424 → KC h0 h → (∀ h' x4, RC gc h' A (ddF c n k (I, v)).1 (ddF c n k (I, v)).2 F → KC h0 h' → TT gc (d + 10) 75 q 56 [.ref (A 0), .int x1, .ref (A (30 + c)), .int (nI N), .int x4] [] h') → TT gc (d + 10) 75 q 37 [.ref (A 0), .int x1, .ref (A (30 + c)), .int (nI N), .int (nI k)] [] h := by
  intro n
  induction n with
  | zero =>
    intro k h I v F b hk hD hR hB hn hcq hb hb2 hkc hq
    exact B75_37 ⟨fun _ => hq h _ hR hkc, fun z => absurd (nI_le (by omega) (by omega)) z⟩
  | succ n ih =>
    intro k h I v F b hk hD hR hB hn hcq hb hb2 hkc hq
    have hR : RC gc h A I v (F + 6 * n + 6) := by rw [show F + 6 * n + 6 = F + 6 * (n + 1) by omega]; exact hR
    refine B75_37 ⟨fun z => absurd z (nI_ge (by omega) (by omega)), fun _ => ⟨⟨_, hR.rf.2.1⟩, _, k_dd (b := b) hR hc (by omega) hB hn hcq hb (by omega), ?_⟩⟩
    rintro r h2 ⟨rfl, q1, q2⟩
    obtain ⟨e1, e2, e3, e4, e5⟩ := dd_keep (s := (I, v)) (k := k) hc hn hcq hb
    refine ⟨rfl, ?_⟩
    rw [nI_1]
    refine ih (k + 1) h2 _ _ F (b + 6) (by omega) ?_ q1 ?_ e1 e2 e3 (by omega) (hkc.trans q2) (fun h' x4 w1 w2 => hq h' x4 w1 w2)
    · rw [show uD (opDd c k (I, v)).2 (18 + c) = uD v (18 + c) from congrFun (congrArg Prod.snd e5) _]
      exact hD
    · rw [show uB (opDd c k (I, v)).2 0 = uB v 0 from congrFun e4 0]
      exact hB
theorem dF_keep {c : Nat} (hc : c < 4) : ∀ n k (s : St) b, NOK s.1 → CQ s.2 → LB s.2 b → NOK (ddF c n k s).1 ∧ CQ (ddF c n k s).2 ∧ LB (ddF c n k s).2 (b + 6 * n) ∧ (ddF c n k s).2.1 = s.2.1 ∧ (ddF c n k s).2.2.2 = s.2.2.2 := by
  intro n
  induction n with
  | zero => intro k s b h1 h2 h3; exact ⟨h1, h2, h3, rfl, rfl⟩
  | succ n ih =>
    intro k s b h1 h2 h3
    obtain ⟨e1, e2, e3, e4, e5⟩ := dd_keep (s := s) (k := k) hc h1 h2 h3
    obtain ⟨f1, f2, f3, f4, f5⟩ := ih (k + 1) (opDd c k s) (b + 6) e1 e2 e3
    refine ⟨f1, f2, ?_, f4.trans e4, f5.trans e5⟩
    rw [show b + 6 * (n + 1) = b + 6 + 6 * n by omega]
    exact f3
theorem LB.fgt {v : Mu} {b c : Nat} (h : LB v b) (hc : c < 4) : LB (fgt c v) b := by
  have h1 : LB (upD v (18 + c) []) b := h
  exact h1.mapH (f := un) hc (fun _ => rfl)
theorem CQ.fgt {v : Mu} {c : Nat} (h : CQ v) (hc : c < 4) : CQ (fgt c v) := by
  have h1 : CQ (upD v (18 + c) []) := h
  exact h1.mapH (f := un) hc (fun _ => rfl)
def opCm (s : St) (x : Int32) : Int32 × St :=
  if wi x 0 3 then (if s.1 (301 + 10 * x.toNatClampNeg) = 0 then (-3, s) else (nI (uD s.2 (18 + x.toNatClampNeg)).length, opRl ((ddF x.toNatClampNeg (uD s.2 (18 + x.toNatClampNeg)).length 0 s).1, fgt x.toNatClampNeg (ddF x.toNatClampNeg (uD s.2 (18 + x.toNatClampNeg)).length 0 s).2))) else (-1, s)
theorem k_commit {gc : Nat → Nat} {d : Nat} {h : AH} {A : Nat → Nat} {I : Nat → Int32} {v : Mu} {F : Nat} {x : Int32} (hR : RC gc h A I v (F + 45)) (hB : (uB v 0).length ≤ 64) (hn : NOK I) (hcq : CQ v) (hb : LB v 360) (hD : ∀ c, c < 4 → (uD v (18 + c)).length ≤ 4) : WP gc (d + 11) 75 [.ref (A 0), .int x] h (fun r h' => r = some (.int (opCm (I, v) x).1) ∧ RC gc h' A (opCm (I, v) x).2.1 (opCm (I, v) x).2.2 F ∧ KC h h') := by
  obtain ⟨xs, hX⟩ := hR
  have hF := hX.rf
  refine M75 ⟨_, k_isChannel, ?_⟩
  rintro r h' ⟨rfl, rfl⟩
  refine ⟨_, rfl, fun z => B75_9 ?_, fun z => ?_⟩
  rotate_left
  · unfold opCm
    rw [show wi x 0 3 = false from b2i_z.mp z, if_neg (by decide)]
    exact ⟨rfl, RC.le ⟨xs, hX⟩ (by omega), KC.refl⟩
  have z : wi x 0 3 = true := b2i_nz z
  obtain ⟨c, hc, rfl⟩ := wi_rng (n := 3) (by decide) z
  have ho : opCm (I, v) (nI c) = (if I (301 + 10 * c) = 0 then (-3, (I, v)) else (nI (uD v (18 + c)).length, opRl ((ddF c (uD v (18 + c)).length 0 (I, v)).1, fgt c (ddF c (uD v (18 + c)).length 0 (I, v)).2))) := by
    unfold opCm
    rw [z, if_pos rfl, nI_clamp (by omega)]
  rw [ho]
  obtain ⟨t, vs, g1, g2, g3, g4⟩ := hF.chA hc
  have hch := hF.chO hc
  have hDc := hD c hc
  refine ⟨_, _, hF.2.1, rfl, t, vs, _, g1, g2, g3, g4, _, _, hch, rfl, fun z2 => B75_26 ⟨_, _, hch, rfl, hX.lst (lt_D (isD_c hc)), _, rx_sizeD hX (isD_c hc) rfl, ?_⟩, fun z2 => ?_⟩
  · rintro r h2 ⟨rfl, rfl⟩
    rw [if_neg z2]
    refine ⟨_, rfl, cm_loop (N := (uD v (18 + c)).length) hc hDc h2 (uD v (18 + c)).length 0 h2 I v (F + 21) 360 (by omega) rfl (RC.le ⟨xs, hX⟩ (by omega)) hB hn hcq hb (by omega) KC.refl (fun h3 x4 w1 w2 => ?_)⟩
    obtain ⟨f1, f2, f3, f4, f5⟩ := dF_keep hc (uD v (18 + c)).length 0 (I, v) 360 hn hcq hb
    have f3 := f3.mono (show 360 + 6 * (uD v (18 + c)).length ≤ 384 by omega)
    have hH := f3.1 c hc
    refine B75_56 ⟨⟨_, w1.rf.chO hc⟩, _, k_fgt w1 hc (by omega), ?_⟩
    rintro r h4 ⟨rfl, y1, y2⟩
    refine ⟨rfl, ⟨_, y1.rf.2.1⟩, _, k_rl (b := 384) y1 ?_ f1 (f2.fgt hc) (f3.fgt hc) (by omega), ?_⟩
    · have : uB (fgt c (ddF c (uD v (18 + c)).length 0 (I, v)).2) 0 = uB v 0 := congrFun f4 0
      rw [this]
      exact hB
    rintro r h5 ⟨rfl, y3, y4⟩
    exact ⟨rfl, rfl, y3, (w2.trans y2).trans y4⟩
  · rw [if_pos z2]
    exact ⟨rfl, RC.le ⟨xs, hX⟩ (by omega), KC.refl⟩
end
section
/-! close -/
theorem cl_loop {gc : Nat → Nat} {d : Nat} {A : Nat → Nat} {I : Nat → Int32} {q : PT} {c F b N : Nat} (hc : c < 4) (hN : N ≤ 64) (h0 : AH) : ∀ n i (h : AH) (xs ys : Nat → List Nat) (v : Mu), i + n = N → (xs (14 + c)).length = N → RX gc h A I xs ys v F → ys (14 + c) = (xs (14 + c)).drop i → (∀ k, k ≠ 14 + c → ys k = xs k) → CQ v → LB v b → KC h0 h → (∀ h' xs ys x3, RX gc h' A I xs ys (clF c n v) F → (∀ k, k ≠ 14 + c → ys k = xs k) → KC h0 h' → TT gc (d + 7) 80 q 41 [.ref (A 0), .int (nI c), .ref (A (30 + c)), .int x3] [] h') → TT gc (d + 7) 80 q 9 [.ref (A 0), .int (nI c), .ref (A (30 + c)), .int (nI i)] [] h := by
  have hk := isC_c hc
  intro n
  induction n with
  | zero =>
    intro i h xs ys v hi hx hX hy hag hcq hb hkc hq
    refine B80_9 ⟨_, _, hX.rf.chO hc, rfl, hX.lst (lt_C hk), _, rs_size hX.1 (lt_C hk), ?_⟩
    rintro r h' ⟨rfl, rfl⟩
    exact ⟨_, rfl, fun _ => hq h' xs ys _ hX hag hkc, fun z => absurd (nI_le (by omega) (by omega)) z⟩
  | succ n ih =>
    intro i h xs ys v hi hx hX hy hag hcq hb hkc hq
    have hil : i < (xs (14 + c)).length := by omega
    refine B80_9 ⟨_, _, hX.rf.chO hc, rfl, hX.lst (lt_C hk), _, rs_size hX.1 (lt_C hk), ?_⟩
    rintro r h' ⟨rfl, rfl⟩
    refine ⟨_, rfl, fun z => absurd z (nI_ge hil (by omega)), fun _ => ⟨_, _, hX.rf.chO hc, rfl, hX.lst (lt_C hk), _, rs_get hX.1 (lt_C hk) hil, ?_⟩⟩
    rintro r h2 ⟨rfl, rfl⟩
    rw [List.drop_eq_getElem_cons hil] at hy
    generalize hga : (xs (14 + c))[i] = a at hy
    have hA2 := hX.2.1.C hk
    rw [hy] at hA2
    have hs : clF c (n + 1) v = (match uC v (14 + c) with
      | [] => v
      | r :: l => clF c n (bk (upC v (14 + c) l) r)) := rfl
    cases hu : uC v (14 + c) with
    | nil => rw [hu] at hA2; exact hA2.elim
    | cons r l =>
      rw [hu] at hA2 hs
      dsimp only at hs
      obtain ⟨ha, hl⟩ := hA2
      obtain ⟨w, hw6, hwr⟩ := hcq.1 (14 + c) hk r (by rw [hu]; exact List.mem_cons_self)
      have hj : (uC v (14 + c))[0]? = some r := by rw [hu]; rfl
      have hjy : (ys (14 + c))[0]? = some a := by rw [hy]; rfl
      have hle : (uC v (14 + c)).eraseIdx 0 = l := by rw [hu]; rfl
      have hye : (ys (14 + c)).eraseIdx 0 = (xs (14 + c)).drop (i + 1) := by rw [hy]; rfl
      obtain ⟨nd1, nd2⟩ := hX.2.2.1.er hk hjy
      rw [hye] at nd1 nd2
      obtain ⟨t0, htk, -⟩ := hb.tk hc hj
      have hbk := hb.bkk hc hj hw6 hwr
      have hcb := (hcq.er (j := 0) hc).bkk hw6 hwr
      rw [hle] at htk hbk hcb
      have hX2 : RX gc h2 A I xs (va_up ys (14 + c) ((xs (14 + c)).drop (i + 1))) (upC v (14 + c) l) F := by
        refine ⟨hX.1, hX.2.1.upC hk hl, nd1, fun k hkn => ?_⟩
        rw [va_up_ne _ _ (by omega)]
        exact hX.2.2.2 k hkn
      obtain ⟨ws, hws⟩ := ha.tag
      have hw60 := htk.w hw6
      refine ⟨_, rfl, _, hws, ⟨_, hX.rf.2.1⟩, _, k_back hX2 ha nd2 hw6 hwr (by omega), ?_⟩
      rintro r' h3 ⟨rfl, ⟨as, bs, q1⟩, q2⟩
      refine ⟨rfl, ?_⟩
      rw [nI_1]
      have q3 := q1.2.2.2 (2 + w) (by omega)
      rw [va_up_self, va_up_self] at q3
      subst q3
      refine ih (i + 1) h3 _ _ _ (by omega) (by rw [va_up_ne _ _ (by omega)]; exact hx) q1 ?_ (fun k hkn => ?_) hcb hbk (hkc.trans q2) (fun h' xs ys x3 w1 w2 w3 => hq h' xs ys x3 ?_ w2 w3)
      · rw [va_up_ne _ _ (by omega), va_up_self, va_up_ne _ _ (by omega)]
      · by_cases hz : k = 2 + w
        · subst hz; rw [va_up_self, va_up_self]
        · rw [va_up_ne _ _ hz, va_up_ne _ _ hz, va_up_ne _ _ hkn]
          exact hag k hkn
      · rw [hs]
        exact w1
def rmA (x : Int32) : Nat → Nat → Mu → Mu
  | 0, _, v => v
  | n + 1, q, v => rmA x n (q + 1) (upR v (8 + q) (rmN x (uR v (8 + q))))
theorem rmN_len {x : Int32} {ys : List Con} : (rmN x ys).length ≤ ys.length := by
  unfold rmN
  split
  · rw [List.length_eraseIdx]
    split <;> omega
  · exact Nat.le_refl _
theorem rmA_loop {gc : Nat → Nat} {d : Nat} {A : Nat → Nat} {I : Nat → Int32} {q : PT} {c F : Nat} {x1 : Int32} (hc : c < 4) (h0 : AH) : ∀ n w (h : AH) (xs ys : Nat → List Nat) (v : Mu), w + n = 6 → RX gc h A I xs ys v F → (∀ k, k ≠ 14 + c → ys k = xs k) → (∀ q, q < 6 → (uR v (8 + q)).length ≤ 64) → KC h0 h → (∀ h' xs ys x3, RX gc h' A I xs ys (rmA x1 n w v) F → (∀ k, k ≠ 14 + c → ys k = xs k) → KC h0 h' → TT gc (d + 5) 80 q 66 [.ref (A 0), .int x1, .ref (A (30 + c)), .int x3] [] h') → TT gc (d + 5) 80 q 43 [.ref (A 0), .int x1, .ref (A (30 + c)), .int (nI w)] [] h := by
  intro n
  induction n with
  | zero =>
    intro w h xs ys v hw hX hag hl hkc hq
    exact B80_43 ⟨fun _ => hq h xs ys _ hX hag hkc, fun z => absurd (show (6 : Int32) ≤ nI w from nI_le (a := 6) (by omega) (by omega)) z⟩
  | succ n ih =>
    intro w h xs ys v hw hX hag hl hkc hq
    have hw6 : w < 6 := by omega
    obtain ⟨t, vs, g1, g2, g3, g4⟩ := hX.rf.quA hw6
    refine B80_43 ⟨fun z => absurd z (show ¬ (6 : Int32) ≤ nI w from nI_ge (b := 6) (by omega) (by decide)), fun _ => ⟨_, _, hX.rf.2.1, rfl, t, vs, _, g1, g2, g3, g4, ⟨_, hX.rf.quO hw6⟩, _, k_rmN hX hw6 (hl w hw6), ?_⟩⟩
    rintro r h2 ⟨rfl, ⟨as, q1⟩, q2⟩
    refine ⟨_, rfl, ?_⟩
    rw [nI_1]
    refine ih (w + 1) h2 _ _ _ (by omega) q1 (fun k hkn => ?_) (fun p hp => ?_) (hkc.trans q2.kc) (fun h' xs ys x3 w1 w2 w3 => hq h' xs ys x3 w1 w2 w3)
    · by_cases hz : k = 8 + w
      · subst hz; rw [va_up_self, va_up_self]
      · rw [va_up_ne _ _ hz, va_up_ne _ _ hz]
        exact hag k hkn
    · by_cases hz : 8 + p = 8 + w
      · rw [hz, uR_s]
        exact Nat.le_trans rmN_len (hl w hw6)
      · rw [uR_n hz]
        exact hl p hp
def rstI (c : Nat) (I : Nat → Int32) : Nat → Int32 := upd (upd (upd I (300 + 10 * c) 12) (301 + 10 * c) 0) (302 + 10 * c) 0
theorem k_reset {gc : Nat → Nat} {d : Nat} {h : AH} {A : Nat → Nat} {I : Nat → Int32} {xs ys : Nat → List Nat} {v : Mu} {F : Nat} {c : Nat} (hX : RX gc h A I xs ys v F) (hc : c < 4) (hag : ∀ k, k ≠ 14 + c → ys k = xs k) : WP gc (d + 2) 81 [.ref (A (30 + c))] h (fun r h' => r = none ∧ RC gc h' A (rstI c I) (upD (upC v (14 + c) []) (18 + c) []) F ∧ KC h h') := by
  have hch := hX.rf.chO hc
  refine M81 ⟨_, hch, Nat.le_of_ble_eq_true rfl, trivial, ?_⟩
  rintro h2 rfl
  refine ⟨_, at_s, Nat.le_of_ble_eq_true rfl, Or.inl rfl, ?_⟩
  rintro h3 rfl
  refine ⟨_, at_s, Nat.le_of_ble_eq_true rfl, trivial, ?_⟩
  rintro h4 rfl
  rw [set_set, set_set]
  have e0 : rstI c I (300 + 10 * c) = 12 := by
    unfold rstI
    rw [pk_un (by omega), pk_un (by omega), pk_us]
  have e1 : rstI c I (301 + 10 * c) = 0 := by
    unfold rstI
    rw [pk_un (by omega), pk_us]
  have e2 : rstI c I (302 + 10 * c) = 0 := pk_us
  obtain ⟨y1, y2, y3⟩ := hX.wrCh (U := rstI c I) hc (fun j hj => by
    unfold rstI
    rw [pk_un (by omega), pk_un (by omega), pk_un (by omega)]) e0 e1 e2
  refine ⟨_, _, at_s, rfl, y1.lst (lt_C (isC_c hc)), _, rx_clrC y1 (isC_c hc), ?_⟩
  rintro r h5 ⟨rfl, y4, y5⟩
  refine ⟨rfl, _, _, y4.rf.chO hc, rfl, y4.lst (lt_D (isD_c hc)), _, rx_clrD y4 (isD_c hc), ?_⟩
  rintro r h6 ⟨rfl, y6, y7⟩
  refine ⟨rfl, rfl, ⟨va_up (va_up xs (14 + c) []) (18 + c) [], ?_⟩, (y2.trans y5.kc).trans y7.kc⟩
  have : va_up (va_up ys (14 + c) []) (18 + c) [] = va_up (va_up xs (14 + c) []) (18 + c) [] := by
    funext k
    by_cases hz : k = 18 + c
    · subst hz; rw [va_up_self, va_up_self]
    · rw [va_up_ne _ _ hz, va_up_ne _ _ hz]
      by_cases hy : k = 14 + c
      · subst hy; rw [va_up_self, va_up_self]
      · rw [va_up_ne _ _ hy, va_up_ne _ _ hy]
        exact hag k hy
  rw [this] at y6
  exact y6
def opCc (c : Nat) (s : St) : St := (rstI c s.1, upD (upC (rmA (nI c) 6 0 (clF c (uC s.2 (14 + c)).length s.2)) (14 + c) []) (18 + c) [])
theorem Sv.clFk {c : Nat} : ∀ n (v : Mu), Sv v (clF c n v) := by
  intro n
  induction n with
  | zero => intro v; exact Sv.refl v
  | succ n ih =>
    intro v
    show Sv v (match uC v (14 + c) with
      | [] => v
      | r :: l => clF c n (bk (upC v (14 + c) l) r))
    cases uC v (14 + c) with
    | nil => exact Sv.refl v
    | cons r l => exact (Sv.up.trans Sv.up).trans (ih _)
theorem k_cc0 {gc : Nat → Nat} {d : Nat} {h : AH} {A : Nat → Nat} {I : Nat → Int32} {v : Mu} {F : Nat} {c b : Nat} (hR : RC gc h A I v F) (hc : c < 4) (hcq : CQ v) (hb : LB v b) (hl : ∀ q, q < 6 → (uR v (8 + q)).length ≤ 64) : WP gc (d + 8) 80 [.ref (A 0), .int (nI c)] h (fun r h' => r = none ∧ RC gc h' A (opCc c (I, v)).1 (opCc c (I, v)).2 F ∧ KC h h') := by
  obtain ⟨xs, hX⟩ := hR
  obtain ⟨t, vs, g1, g2, g3, g4⟩ := hX.rf.chA hc
  have hln := hX.lenC (isC_c hc) rfl
  have hH := hb.1 c hc
  refine M80 ⟨_, _, hX.rf.2.1, rfl, t, vs, _, g1, g2, g3, g4, cl_loop (N := (xs (14 + c)).length) hc (by omega) h (xs (14 + c)).length 0 h xs xs v (by omega) rfl hX rfl (fun _ _ => rfl) hcq hb KC.refl (fun h2 xs2 ys2 x3 w1 w2 w3 => B80_41 ?_)⟩
  rw [hln] at w1
  have hsv := Sv.clFk (c := c) (uC v (14 + c)).length v
  refine rmA_loop (x1 := nI c) hc h 6 0 h2 xs2 ys2 _ rfl w1 w2 (fun q hq6 => ?_) w3 (fun h3 xs3 ys3 x4 u1 u2 u3 => B80_66 ⟨⟨_, u1.rf.chO hc⟩, _, k_reset u1 hc u2, ?_⟩)
  · rw [show uR (clF c (uC v (14 + c)).length v) (8 + q) = uR v (8 + q) from congrFun (congrArg Prod.fst hsv.2) _]
    exact hl q hq6
  · rintro r h4 ⟨rfl, q1, q2⟩
    exact ⟨rfl, rfl, q1, u3.trans q2⟩
def opCl (s : St) (x : Int32) : Int32 × St := if wi x 0 3 then (0, opCc x.toNatClampNeg s) else (-1, s)
theorem k_close {gc : Nat → Nat} {d : Nat} {h : AH} {A : Nat → Nat} {I : Nat → Int32} {v : Mu} {F : Nat} {x : Int32} {b : Nat} (hR : RC gc h A I v F) (hcq : CQ v) (hb : LB v b) (hl : ∀ q, q < 6 → (uR v (8 + q)).length ≤ 64) : WP gc (d + 9) 79 [.ref (A 0), .int x] h (fun r h' => r = some (.int (opCl (I, v) x).1) ∧ RC gc h' A (opCl (I, v) x).2.1 (opCl (I, v) x).2.2 F ∧ KC h h') := by
  refine M79 ⟨_, k_isChannel, ?_⟩
  rintro r h' ⟨rfl, rfl⟩
  refine ⟨_, rfl, fun z => B79_9 ?_, fun z => ?_⟩
  · have z : wi x 0 3 = true := b2i_nz z
    obtain ⟨c, hc, rfl⟩ := wi_rng (n := 3) (by decide) z
    have ho : opCl (I, v) (nI c) = (0, opCc c (I, v)) := by
      unfold opCl
      rw [z, if_pos rfl, nI_clamp (by omega)]
    rw [ho]
    refine ⟨⟨_, hR.rf.2.1⟩, _, k_cc0 hR hc hcq hb hl, ?_⟩
    rintro r h2 ⟨rfl, q1, q2⟩
    exact ⟨rfl, rfl, q1, q2⟩
  · unfold opCl
    rw [show wi x 0 3 = false from b2i_z.mp z, if_neg (by decide)]
    exact ⟨rfl, hR, KC.refl⟩
end
section
/-! what goes is filtered out, from the end -/
def flF {α : Type} (p : α → Bool) (l : List α) (n : Nat) : List α := l.take n ++ (l.drop n).filter (fun y => !p y)
theorem flF_0 {α : Type} {p : α → Bool} {l : List α} : flF p l 0 = l.filter (fun y => !p y) := rfl
theorem flF_n {α : Type} {p : α → Bool} {l : List α} : flF p l l.length = l := by
  unfold flF
  rw [List.take_length, List.drop_length]
  exact List.append_nil _
theorem flF_get {α : Type} {p : α → Bool} {l : List α} {n : Nat} (h : n < l.length) : (flF p l (n + 1))[n]? = some l[n] := by
  unfold flF
  rw [List.getElem?_append_left (by rw [List.length_take]; omega), List.getElem?_take_of_lt (by omega), List.getElem?_eq_getElem h]
theorem flF_er {α : Type} {p : α → Bool} {l : List α} {n : Nat} (h : n < l.length) (hp : p l[n] = true) : (flF p l (n + 1)).eraseIdx n = flF p l n := by
  unfold flF
  rw [List.take_add_one, List.getElem?_eq_getElem h, List.append_assoc, List.drop_eq_getElem_cons h, List.filter_cons_of_neg (by rw [hp]; decide)]
  have hl : (l.take n).length = n := by rw [List.length_take]; omega
  rw [List.eraseIdx_append_of_length_le (by omega), hl, Nat.sub_self]
  rfl
theorem flF_sk {α : Type} {p : α → Bool} {l : List α} {n : Nat} (h : n < l.length) (hp : p l[n] = false) : flF p l (n + 1) = flF p l n := by
  unfold flF
  rw [List.take_add_one, List.getElem?_eq_getElem h, List.append_assoc, List.drop_eq_getElem_cons h, List.filter_cons_of_pos (by rw [hp]; rfl)]
  rfl
theorem flF_len {α : Type} {p : α → Bool} {l : List α} {n : Nat} (h : n ≤ l.length) : n ≤ (flF p l n).length := by
  unfold flF
  rw [List.length_append, List.length_take]
  omega
theorem ne_1 (n : Nat) : nI n + (-1) = nI n - 1 := by
  rw [Int32.sub_eq_add_neg]
theorem neg_1 : nI 0 - 1 < 0 := by decide
theorem upB_upB {v : Mu} {k : Nat} {a b : List Bnd} : upB (upB v k a) k b = upB v k b := by
  unfold upB
  rw [vu_vu]
theorem upB_id {v : Mu} {k : Nat} : upB v k (uB v k) = v := by
  unfold upB uB
  have : va_up v.1 k (v.1 k) = v.1 := by
    funext i
    by_cases h1 : i = k
    · subst h1; rw [va_up_self]
    · rw [va_up_ne _ _ h1]
  rw [this]
def bQ (x : Int32) (b : Bnd) : Bool := decide (b.2.1 = x)
def bE (x : Int32) (b : Bnd) : Bool := decide (b.1 = x)
theorem fq_loop {gc : Nat → Nat} {d : Nat} {A : Nat → Nat} {I : Nat → Int32} {q : PT} {F : Nat} {v : Mu} {x : Int32} (hl : (uB v 0).length ≤ 64) (h0 : AH) : ∀ n (h : AH), n ≤ (uB v 0).length → RC gc h A I (upB v 0 (flF (bQ x) (uB v 0) n)) F → KC h0 h → (∀ h' x2, RC gc h' A I (upB v 0 ((uB v 0).filter (fun y => !bQ x y))) F → KC h0 h' → TT gc (d + 3) 35 q 47 [.ref (A 0), .int x, .int x2, .retAddr 0] [] h') → TT gc (d + 3) 35 q 10 [.ref (A 0), .int x, .int (nI n - 1), .retAddr 0] [] h := by
  intro n
  induction n with
  | zero =>
    intro h _ hR hkc hq
    exact B35_10 ⟨fun _ => hq h _ hR hkc, fun z => absurd neg_1 z⟩
  | succ n ih =>
    rintro h hn ⟨xs, hX⟩ hkc hq
    have hF := hX.rf
    have hb : isB 0 := rfl
    have hnl : n < (uB v 0).length := by omega
    rw [nI_pred]
    have hl2 : n < (uB (upB v 0 (flF (bQ x) (uB v 0) (n + 1))) 0).length := by rw [uB_s]; exact Nat.lt_of_succ_le (flF_len hn)
    have hg : (uB (upB v 0 (flF (bQ x) (uB v 0) (n + 1))) 0)[n]'hl2 = (uB v 0)[n] := (List.getElem_eq_iff _).mpr (by rw [uB_s]; exact flF_get hnl)
    refine B35_10 ⟨fun z => absurd z (nI_pos (by omega)), fun _ => ⟨_, _, hF.2.1, rfl, hX.lst (k := 0) (by decide), _, rx_getB hX hb rfl hl2, ?_⟩⟩
    rintro r h2 ⟨a, rfl, rfl, -, ha⟩
    rw [hg] at ha
    refine ⟨_, rfl, _, ha, _, _, ha, rfl, fun z => B35_41 ?_, fun z => ⟨_, _, hF.2.1, rfl, hX.lst (k := 0) (by decide), _, rx_rmB hX hb rfl hl2, ?_⟩⟩
    · rw [ne_1]
      refine ih h2 (by omega) ⟨xs, ?_⟩ hkc hq
      rw [← flF_sk hnl (show bQ x (uB v 0)[n] = false from decide_eq_false z)]
      exact hX
    · rintro r h3 ⟨a2, rfl, y1, y2, -⟩
      refine ⟨_, rfl, B35_41 ?_⟩
      rw [ne_1]
      rw [uB_s, upB_upB, flF_er hnl (show bQ x (uB v 0)[n] = true from decide_eq_true z)] at y1
      exact ih h3 (by omega) ⟨_, y1⟩ (hkc.trans y2.kc) hq
theorem fe_loop {gc : Nat → Nat} {d : Nat} {A : Nat → Nat} {I : Nat → Int32} {q : PT} {F : Nat} {v : Mu} {x : Int32} (hl : (uB v 0).length ≤ 64) (h0 : AH) : ∀ n (h : AH), n ≤ (uB v 0).length → RC gc h A I (upB v 0 (flF (bE x) (uB v 0) n)) F → KC h0 h → (∀ h', RC gc h' A I (upB v 0 ((uB v 0).filter (fun y => !bE x y))) F → KC h0 h' → q none h') → TT gc (d + 3) 83 q 20 [.ref (A 0), .int x, .int (nI n - 1)] [] h := by
  intro n
  induction n with
  | zero =>
    intro h _ hR hkc hq
    exact B83_20 ⟨fun _ => B83_57 (hq h hR hkc), fun z => absurd neg_1 z⟩
  | succ n ih =>
    rintro h hn ⟨xs, hX⟩ hkc hq
    have hF := hX.rf
    have hb : isB 0 := rfl
    have hnl : n < (uB v 0).length := by omega
    rw [nI_pred]
    have hl2 : n < (uB (upB v 0 (flF (bE x) (uB v 0) (n + 1))) 0).length := by rw [uB_s]; exact Nat.lt_of_succ_le (flF_len hn)
    have hg : (uB (upB v 0 (flF (bE x) (uB v 0) (n + 1))) 0)[n]'hl2 = (uB v 0)[n] := (List.getElem_eq_iff _).mpr (by rw [uB_s]; exact flF_get hnl)
    refine B83_20 ⟨fun z => absurd z (nI_pos (by omega)), fun _ => ⟨_, _, hF.2.1, rfl, hX.lst (k := 0) (by decide), _, rx_getB hX hb rfl hl2, ?_⟩⟩
    rintro r h2 ⟨a, rfl, rfl, -, ha⟩
    rw [hg] at ha
    refine ⟨_, rfl, _, ha, _, _, ha, rfl, fun z => B83_51 ?_, fun z => ⟨_, _, hF.2.1, rfl, hX.lst (k := 0) (by decide), _, rx_rmB hX hb rfl hl2, ?_⟩⟩
    · rw [ne_1]
      refine ih h2 (by omega) ⟨xs, ?_⟩ hkc hq
      rw [← flF_sk hnl (show bE x (uB v 0)[n] = false from decide_eq_false z)]
      exact hX
    · rintro r h3 ⟨a2, rfl, y1, y2, -⟩
      refine ⟨_, rfl, B83_51 ?_⟩
      rw [ne_1]
      rw [uB_s, upB_upB, flF_er hnl (show bE x (uB v 0)[n] = true from decide_eq_true z)] at y1
      exact ih h3 (by omega) ⟨_, y1⟩ (hkc.trans y2.kc) hq
theorem lg_loop {gc : Nat → Nat} {d : Nat} {A : Nat → Nat} {I : Nat → Int32} {q : PT} {F c w : Nat} {v : Mu} (hc : c < 4) (hl : (uC v (14 + c)).length ≤ 64) (h0 : AH) : ∀ n g (h : AH), n ≤ (uC v (14 + c)).length → RC gc h A I (upC v (14 + c) (flF (pq w) (uC v (14 + c)) n)) F → KC h0 h → (∀ h', RC gc h' A I (upC v (14 + c) ((uC v (14 + c)).filter (fun y => !pq w y))) F → KC h0 h' → q (some (.int (nI (g + ((uC v (14 + c)).take n).countP (pq w))))) h') → TT gc (d + 3) 36 q 12 [.ref (A (30 + c)), .int (nI w), .int (nI g), .int (nI n - 1)] [] h := by
  have hk := isC_c hc
  intro n
  induction n with
  | zero =>
    intro g h _ hR hkc hq
    exact B36_12 ⟨fun _ => B36_52 (hq h hR hkc), fun z => absurd neg_1 z⟩
  | succ n ih =>
    rintro g h hn ⟨xs, hX⟩ hkc hq
    have hch := hX.rf.chO hc
    have hnl : n < (uC v (14 + c)).length := by omega
    rw [nI_pred]
    have hl2 : n < (uC (upC v (14 + c) (flF (pq w) (uC v (14 + c)) (n + 1))) (14 + c)).length := by rw [uC_s]; exact Nat.lt_of_succ_le (flF_len hn)
    have hg : (uC (upC v (14 + c) (flF (pq w) (uC v (14 + c)) (n + 1))) (14 + c))[n]'hl2 = (uC v (14 + c))[n] := (List.getElem_eq_iff _).mpr (by rw [uC_s]; exact flF_get hnl)
    have htk : ((uC v (14 + c)).take (n + 1)).countP (pq w) = ((uC v (14 + c)).take n).countP (pq w) + (if pq w (uC v (14 + c))[n] then 1 else 0) := by
      rw [List.take_add_one, List.getElem?_eq_getElem hnl, List.countP_append]
      show _ + List.countP (pq w) [(uC v (14 + c))[n]] = _
      rw [List.countP_cons, List.countP_nil, Nat.zero_add]
    rw [htk] at hq
    refine B36_12 ⟨fun z => absurd z (nI_pos (by omega)), fun _ => ⟨_, _, hch, rfl, hX.lst (lt_C hk), _, rx_getC hX hk rfl hl2, ?_⟩⟩
    rintro r h2 ⟨a, rfl, rfl, -, ha⟩
    rw [hg] at ha
    obtain ⟨m, D, w1, w2, w3⟩ := ha
    refine ⟨_, rfl, _, w1, _, _, w1, rfl, fun z => B36_46 ?_, fun z => ⟨_, _, hch, rfl, hX.lst (lt_C hk), _, rx_rmC hX hk rfl hl2, ?_⟩⟩
    · have hp : pq w (uC v (14 + c))[n] = false := decide_eq_false z
      rw [hp, if_neg (by decide), Nat.add_zero] at hq
      rw [ne_1]
      refine ih g h2 (by omega) ⟨xs, ?_⟩ hkc hq
      rw [← flF_sk hnl hp]
      exact hX
    · have hp : pq w (uC v (14 + c))[n] = true := decide_eq_true z
      rw [hp, if_pos rfl] at hq
      rintro r h3 ⟨a2, rfl, y1, y2, -⟩
      refine ⟨_, rfl, B36_46 ?_⟩
      rw [ne_1, nI_1]
      rw [uC_s, upC_upC, flF_er hnl hp] at y1
      refine ih (g + 1) h3 (by omega) ⟨_, y1⟩ (hkc.trans y2.kc) (fun h' q1 q2 => ?_)
      rw [show g + 1 + ((uC v (14 + c)).take n).countP (pq w) = g + (((uC v (14 + c)).take n).countP (pq w) + 1) by omega]
      exact hq h' q1 q2
theorem k_lg {gc : Nat → Nat} {d : Nat} {h : AH} {A : Nat → Nat} {I : Nat → Int32} {v : Mu} {F : Nat} {c w : Nat} (hR : RC gc h A I v F) (hc : c < 4) (hl : (uC v (14 + c)).length ≤ 64) : WP gc (d + 4) 36 [.ref (A (30 + c)), .int (nI w)] h (fun r h' => r = some (.int (nI ((uC v (14 + c)).countP (pq w)))) ∧ RC gc h' A I (upC v (14 + c) ((uC v (14 + c)).filter (fun y => !pq w y))) F ∧ KC h h') := by
  obtain ⟨xs, hX⟩ := hR
  have hk := isC_c hc
  refine M36 ⟨_, _, hX.rf.chO hc, rfl, hX.lst (lt_C hk), _, rx_sizeC hX hk rfl, ?_⟩
  rintro r h' ⟨rfl, rfl⟩
  refine ⟨_, rfl, lg_loop hc hl h' (uC v (14 + c)).length 0 h' (Nat.le_refl _) ?_ KC.refl (fun h2 q1 q2 => ⟨?_, q1, q2⟩)⟩
  · rw [flF_n, upC_id]
    exact ⟨xs, hX⟩
  · rw [List.take_length, Nat.zero_add]
theorem kp_loop {gc : Nat → Nat} {d : Nat} {A : Nat → Nat} {I : Nat → Int32} {q : PT} {F w : Nat} {v : Mu} (hw : w < 6) (hl : (uC v (2 + w)).length ≤ 64) (h0 : AH) : ∀ n (h : AH), n ≤ (uC v (2 + w)).length → RC gc h A I (upC v (2 + w) (flF (fun r => !mPers (rM r)) (uC v (2 + w)) n)) F → KC h0 h → (∀ h', RC gc h' A I (upC v (2 + w) ((uC v (2 + w)).filter (fun y => !!mPers (rM y)))) F → KC h0 h' → q none h') → TT gc (d + 3) 84 q 10 [.ref (A (20 + w)), .int (nI n - 1)] [] h := by
  have hk := isC_q hw
  intro n
  induction n with
  | zero =>
    intro h _ hR hkc hq
    exact B84_10 ⟨fun _ => B84_49 (hq h hR hkc), fun z => absurd neg_1 z⟩
  | succ n ih =>
    rintro h hn ⟨xs, hX⟩ hkc hq
    have hqu := hX.rf.quO hw
    have hnl : n < (uC v (2 + w)).length := by omega
    rw [nI_pred]
    have hl2 : n < (uC (upC v (2 + w) (flF (fun r => !mPers (rM r)) (uC v (2 + w)) (n + 1))) (2 + w)).length := by rw [uC_s]; exact Nat.lt_of_succ_le (flF_len hn)
    have hg : (uC (upC v (2 + w) (flF (fun r => !mPers (rM r)) (uC v (2 + w)) (n + 1))) (2 + w))[n]'hl2 = (uC v (2 + w))[n] := (List.getElem_eq_iff _).mpr (by rw [uC_s]; exact flF_get hnl)
    refine B84_10 ⟨fun z => absurd z (nI_pos (by omega)), fun _ => ⟨_, _, hqu, rfl, hX.lst (lt_C hk), _, rx_getC hX hk rfl hl2, ?_⟩⟩
    rintro r h2 ⟨a, rfl, rfl, -, ha⟩
    rw [hg] at ha
    obtain ⟨m, D, w1, w2, w3⟩ := ha
    refine ⟨_, rfl, _, w1, _, _, w1, rfl, _, _, w3, rfl, fun z => B84_43 ?_, fun z => ⟨_, _, hqu, rfl, hX.lst (lt_C hk), _, rx_rmC hX hk rfl hl2, ?_⟩⟩
    · have hp : (fun r => !mPers (rM r)) (uC v (2 + w))[n] = false := by
        have : mPers (rM (uC v (2 + w))[n]) = true := b2i_nz z
        show (!mPers (rM (uC v (2 + w))[n])) = false
        rw [this]; rfl
      rw [ne_1]
      refine ih h2 (by omega) ⟨xs, ?_⟩ hkc hq
      rw [← flF_sk hnl hp]
      exact hX
    · have hp : (fun r => !mPers (rM r)) (uC v (2 + w))[n] = true := by
        have : mPers (rM (uC v (2 + w))[n]) = false := b2i_z.mp z
        show (!mPers (rM (uC v (2 + w))[n])) = true
        rw [this]; rfl
      rintro r h3 ⟨a2, rfl, y1, y2, -⟩
      refine ⟨_, rfl, B84_43 ?_⟩
      rw [ne_1]
      rw [uC_s, upC_upC, flF_er hnl hp] at y1
      exact ih h3 (by omega) ⟨_, y1⟩ (hkc.trans y2.kc) hq
theorem k_kp {gc : Nat → Nat} {d : Nat} {h : AH} {A : Nat → Nat} {I : Nat → Int32} {v : Mu} {F : Nat} {w : Nat} (hR : RC gc h A I v F) (hw : w < 6) (hl : (uC v (2 + w)).length ≤ 64) : WP gc (d + 4) 84 [.ref (A (20 + w))] h (fun r h' => r = none ∧ RC gc h' A I (upC v (2 + w) ((uC v (2 + w)).filter (fun y => !!mPers (rM y)))) F ∧ KC h h') := by
  obtain ⟨xs, hX⟩ := hR
  have hk := isC_q hw
  refine M84 ⟨_, _, hX.rf.quO hw, rfl, hX.lst (lt_C hk), _, rx_sizeC hX hk rfl, ?_⟩
  rintro r h' ⟨rfl, rfl⟩
  refine ⟨_, rfl, kp_loop hw hl h' (uC v (2 + w)).length h' (Nat.le_refl _) ?_ KC.refl (fun h2 q1 q2 => ⟨rfl, q1, q2⟩)⟩
  rw [flF_n, upC_id]
  exact ⟨xs, hX⟩
end
