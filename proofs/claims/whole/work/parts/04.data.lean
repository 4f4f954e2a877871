def qT_0 : u_T := fun k => match k with
  | 0 => ("QueueBroker$Binding", "exchange", "I", true)
  | 1 => ("QueueBroker$Binding", "queue", "I", true)
  | _ => ("QueueBroker$Binding", "pattern", "I", true)
def qT_1 : u_T := fun k => match k with
  | 0 => ("QueueBroker$Channel", "prefetch", "I", false)
  | 1 => ("QueueBroker$Channel", "inTransaction", "Z", false)
  | 2 => ("QueueBroker$Channel", "lastTag", "I", false)
  | 3 => ("QueueBroker$Channel", "holding", "Ljava/util/ArrayList;", true)
  | _ => ("QueueBroker$Channel", "deeds", "Ljava/util/ArrayList;", true)
def qT_2 : u_T := fun k => match k with
  | 0 => ("QueueBroker$Consumer", "channel", "I", true)
  | _ => ("QueueBroker$Consumer", "automatic", "Z", true)
def qT_3 : u_T := fun k => match k with
  | 0 => ("QueueBroker$Copy", "message", "LQueueBroker$Message;", true)
  | 1 => ("QueueBroker$Copy", "queue", "I", true)
  | 2 => ("QueueBroker$Copy", "place", "I", true)
  | 3 => ("QueueBroker$Copy", "returned", "Z", false)
  | 4 => ("QueueBroker$Copy", "tag", "I", false)
  | _ => ("QueueBroker$Copy", "deed", "I", false)
def qT_4 : u_T := fun k => match k with
  | 0 => ("QueueBroker$Deed", "exchange", "I", true)
  | 1 => ("QueueBroker$Deed", "message", "LQueueBroker$Message;", true)
  | _ => ("QueueBroker$Deed", "how", "I", true)
def qT_5 : u_T := fun k => match k with
  | 0 => ("QueueBroker$Exchange", "declared", "Z", false)
  | 1 => ("QueueBroker$Exchange", "type", "I", false)
  | _ => ("QueueBroker$Exchange", "durable", "Z", false)
def qT_6 : u_T := fun k => match k with
  | 0 => ("QueueBroker$Message", "body", "I", true)
  | 1 => ("QueueBroker$Message", "key", "I", true)
  | 2 => ("QueueBroker$Message", "hops", "I", true)
  | _ => ("QueueBroker$Message", "persistent", "Z", true)
def qT_7 : u_T := fun k => match k with
  | 0 => ("QueueBroker$Queue", "declared", "Z", false)
  | 1 => ("QueueBroker$Queue", "limit", "I", false)
  | 2 => ("QueueBroker$Queue", "dead", "I", false)
  | 3 => ("QueueBroker$Queue", "durable", "Z", false)
  | 4 => ("QueueBroker$Queue", "waiting", "Ljava/util/ArrayList;", true)
  | _ => ("QueueBroker$Queue", "row", "Ljava/util/ArrayList;", true)
def qT_8 : u_T := fun k => match k with
  | 0 => ("QueueBroker", "exchanges", "[LQueueBroker$Exchange;", true)
  | 1 => ("QueueBroker", "queues", "[LQueueBroker$Queue;", true)
  | 2 => ("QueueBroker", "channels", "[LQueueBroker$Channel;", true)
  | 3 => ("QueueBroker", "bindings", "Ljava/util/ArrayList;", true)
  | 4 => ("QueueBroker", "letters", "Ljava/util/ArrayList;", true)
  | 5 => ("QueueBroker", "lastPlace", "I", false)
  | 6 => ("QueueBroker", "lettersRouted", "I", false)
  | _ => ("QueueBroker", "lettersLost", "I", false)
def qT_9 : u_T := fun k => match k with
  | 0 => ("java/util/AbstractList", "modCount", "I", false)
  | 1 => ("java/util/ArrayList", "elementData", "[Ljava/lang/Object;", false)
  | _ => ("java/util/ArrayList", "size", "I", false)
def qT_10 : u_T := fun k => match k with
  | 0 => ("QueueBrokerModel", "type", "[I", true)
  | 1 => ("QueueBrokerModel", "limit", "[I", true)
  | 2 => ("QueueBrokerModel", "dead", "[I", true)
  | 3 => ("QueueBrokerModel", "eDurable", "[Z", true)
  | 4 => ("QueueBrokerModel", "qDurable", "[Z", true)
  | 5 => ("QueueBrokerModel", "bE", "[I", true)
  | 6 => ("QueueBrokerModel", "bQ", "[I", true)
  | 7 => ("QueueBrokerModel", "bPattern", "[I", true)
  | 8 => ("QueueBrokerModel", "bindings", "I", false)
  | 9 => ("QueueBrokerModel", "cQueue", "[I", true)
  | 10 => ("QueueBrokerModel", "cChannel", "[I", true)
  | 11 => ("QueueBrokerModel", "cAutomatic", "[Z", true)
  | 12 => ("QueueBrokerModel", "consumers", "I", false)
  | 13 => ("QueueBrokerModel", "prefetch", "[I", true)
  | 14 => ("QueueBrokerModel", "lastTag", "[I", true)
  | 15 => ("QueueBrokerModel", "deeds", "[I", true)
  | 16 => ("QueueBrokerModel", "transaction", "[Z", true)
  | 17 => ("QueueBrokerModel", "dE", "[I", true)
  | 18 => ("QueueBrokerModel", "dKey", "[I", true)
  | 19 => ("QueueBrokerModel", "dBody", "[I", true)
  | 20 => ("QueueBrokerModel", "dWhat", "[I", true)
  | 21 => ("QueueBrokerModel", "body", "[I", true)
  | 22 => ("QueueBrokerModel", "key", "[I", true)
  | 23 => ("QueueBrokerModel", "hops", "[I", true)
  | 24 => ("QueueBrokerModel", "queue", "[I", true)
  | 25 => ("QueueBrokerModel", "place", "[I", true)
  | 26 => ("QueueBrokerModel", "holder", "[I", true)
  | 27 => ("QueueBrokerModel", "tag", "[I", true)
  | 28 => ("QueueBrokerModel", "deed", "[I", true)
  | 29 => ("QueueBrokerModel", "persistent", "[Z", true)
  | 30 => ("QueueBrokerModel", "returned", "[Z", true)
  | 31 => ("QueueBrokerModel", "copies", "I", false)
  | 32 => ("QueueBrokerModel", "places", "I", false)
  | 33 => ("QueueBrokerModel", "lBody", "[I", true)
  | 34 => ("QueueBrokerModel", "lKey", "[I", true)
  | 35 => ("QueueBrokerModel", "lHops", "[I", true)
  | 36 => ("QueueBrokerModel", "lDead", "[I", true)
  | 37 => ("QueueBrokerModel", "lPersistent", "[Z", true)
  | 38 => ("QueueBrokerModel", "letters", "I", false)
  | 39 => ("QueueBrokerModel", "routed", "I", false)
  | 40 => ("QueueBrokerModel", "lost", "I", false)
  | 41 => ("QueueBrokerModel", "fit", "[Z", true)
  | _ => ("QueueBrokerModel", "chosen", "[Z", true)
def vwc : List vw_C := [("QueueBroker$Binding", qT_0, 3), ("QueueBroker$Channel", qT_1, 5), ("QueueBroker$Consumer", qT_2, 2), ("QueueBroker$Copy", qT_3, 6), ("QueueBroker$Deed", qT_4, 3), ("QueueBroker$Exchange", qT_5, 3), ("QueueBroker$Message", qT_6, 4), ("QueueBroker$Queue", qT_7, 6), ("QueueBroker", qT_8, 8), ("java/util/ArrayList", qT_9, 3), ("QueueBrokerModel", qT_10, 43)]
def aks : List FieldType := [.object "QueueBroker$Exchange", .object "QueueBroker$Queue", .object "QueueBroker$Channel", .object "java/lang/Object", .int, .boolean]
def mI : List (MethodName × ByteArray × Nat × Option FieldType × Nat × Nat × Nat × Nat × Nat) := [
  (⟨"QueueBroker", "<init>", "()V"⟩, prog_1_method_1_code, 2, (Option.none : Option FieldType), 1, 73, 72, 0, 50),
  (⟨"java/util/ArrayList", "<init>", "()V"⟩, prog_19_method_2_code, 1, (Option.none : Option FieldType), 1, 87, 86, 0, 53),
  (⟨"java/util/AbstractList", "<init>", "()V"⟩, prog_18_method_1_code, 1, (Option.none : Option FieldType), 1, 90, 89, 0, 52),
  (⟨"java/util/AbstractCollection", "<init>", "()V"⟩, prog_17_method_1_code, 1, (Option.none : Option FieldType), 1, 93, 92, 0, 51),
  (⟨"QueueBroker$Exchange", "<init>", "()V"⟩, prog_7_method_1_code, 1, (Option.none : Option FieldType), 1, 112, 111, 0, 54),
  (⟨"QueueBroker$Queue", "<init>", "()V"⟩, prog_9_method_1_code, 1, (Option.none : Option FieldType), 1, 130, 129, 0, 55),
  (⟨"QueueBroker$Channel", "<init>", "()V"⟩, prog_3_method_1_code, 1, (Option.none : Option FieldType), 1, 162, 161, 0, 56),
  (⟨"QueueBroker", "exchange", "(IIZ)I"⟩, prog_1_method_2_code, 5, (Option.some FieldType.int), 4, 214, 212, 213, 50),
  (⟨"QueueBroker", "isWithin", "(III)Z"⟩, prog_1_method_21_code, 3, (Option.some FieldType.boolean), 3, 217, 216, 0, 50),
  (⟨"QueueBroker", "queue", "(IIIZ)I"⟩, prog_1_method_3_code, 6, (Option.some FieldType.int), 5, 221, 219, 220, 50),
  (⟨"QueueBroker", "bind", "(III)I"⟩, prog_1_method_4_code, 4, (Option.some FieldType.int), 4, 225, 223, 224, 50),
  (⟨"QueueBroker", "isDeclaredExchange", "(I)Z"⟩, prog_1_method_23_code, 2, (Option.some FieldType.boolean), 2, 229, 228, 0, 50),
  (⟨"QueueBroker", "isDeclaredQueue", "(I)Z"⟩, prog_1_method_24_code, 2, (Option.some FieldType.boolean), 2, 233, 232, 1, 50),
  (⟨"QueueBroker", "isPattern", "(I)Z"⟩, prog_1_method_27_code, 2, (Option.some FieldType.boolean), 1, 236, 235, 0, 50),
  (⟨"QueueBroker", "countItems", "(I)I"⟩, prog_1_method_26_code, 2, (Option.some FieldType.int), 1, 239, 238, 0, 50),
  (⟨"QueueBroker", "itemAt", "(II)I"⟩, prog_1_method_25_code, 2, (Option.some FieldType.int), 2, 242, 241, 0, 50),
  (⟨"QueueBroker", "findBinding", "(III)I"⟩, prog_1_method_31_code, 6, (Option.some FieldType.int), 4, 246, 245, 2, 50),
  (⟨"java/util/ArrayList", "size", "()I"⟩, prog_19_method_8_code, 1, (Option.some FieldType.int), 1, 250, 248, 249, 53),
  (⟨"java/util/ArrayList", "get", "(I)Ljava/lang/Object;"⟩, prog_19_method_20_code, 2, (Option.some (FieldType.object "java/lang/Object")), 2, 254, 252, 253, 53),
  (⟨"java/util/Objects", "checkIndex", "(II)I"⟩, prog_23_method_17_code, 2, (Option.some FieldType.int), 2, 257, 256, 0, 58),
  (⟨"jdk/internal/util/Preconditions", "checkIndex", "(IILjava/util/function/BiFunction;)I"⟩, prog_27_method_11_code, 3, (Option.some FieldType.int), 3, 260, 259, 0, 59),
  (⟨"java/util/ArrayList", "elementData", "(I)Ljava/lang/Object;"⟩, prog_19_method_18_code, 2, (Option.some (FieldType.object "java/lang/Object")), 2, 264, 262, 263, 53),
  (⟨"QueueBroker$Binding", "<init>", "(III)V"⟩, prog_2_method_1_code, 4, (Option.none : Option FieldType), 4, 269, 268, 0, 60),
  (⟨"java/util/ArrayList", "add", "(Ljava/lang/Object;)Z"⟩, prog_19_method_25_code, 2, (Option.some FieldType.boolean), 2, 287, 285, 286, 53),
  (⟨"java/util/ArrayList", "add", "(Ljava/lang/Object;[Ljava/lang/Object;I)V"⟩, prog_19_method_24_code, 4, (Option.none : Option FieldType), 4, 291, 290, 3, 53),
  (⟨"java/util/ArrayList", "grow", "()[Ljava/lang/Object;"⟩, prog_19_method_7_code, 1, (Option.some (FieldType.array (FieldType.object "java/lang/Object"))), 1, 295, 294, 4, 53),
  (⟨"java/util/ArrayList", "grow", "(I)[Ljava/lang/Object;"⟩, prog_19_method_6_code, 4, (Option.some (FieldType.array (FieldType.object "java/lang/Object"))), 2, 299, 298, 5, 53),
  (⟨"jdk/internal/util/ArraysSupport", "newLength", "(III)I"⟩, prog_26_method_27_code, 4, (Option.some FieldType.int), 3, 302, 301, 0, 61),
  (⟨"jdk/internal/util/ArraysSupport", "hugeLength", "(II)I"⟩, prog_26_method_28_code, 3, (Option.some FieldType.int), 2, 309, 308, 0, 61),
  (⟨"java/util/Arrays", "copyOf", "([Ljava/lang/Object;I)[Ljava/lang/Object;"⟩, prog_20_method_119_code, 2, (Option.some (FieldType.array (FieldType.object "java/lang/Object"))), 2, 312, 311, 0, 63),
  (⟨"java/util/Arrays", "copyOf", "([Ljava/lang/Object;ILjava/lang/Class;)[Ljava/lang/Object;"⟩, prog_20_method_120_code, 4, (Option.some (FieldType.array (FieldType.object "java/lang/Object"))), 3, 330, 329, 0, 63),
  (⟨"QueueBroker", "unbind", "(III)I"⟩, prog_1_method_5_code, 5, (Option.some FieldType.int), 4, 345, 343, 344, 50),
  (⟨"java/util/ArrayList", "remove", "(I)Ljava/lang/Object;"⟩, prog_19_method_29_code, 4, (Option.some (FieldType.object "java/lang/Object")), 2, 349, 347, 348, 53),
  (⟨"java/util/ArrayList", "fastRemove", "([Ljava/lang/Object;I)V"⟩, prog_19_method_39_code, 4, (Option.none : Option FieldType), 3, 353, 352, 6, 53),
  (⟨"QueueBroker", "drop", "(I)I"⟩, prog_1_method_6_code, 2, (Option.some FieldType.int), 2, 358, 356, 357, 50),
  (⟨"QueueBroker", "forgetQueue", "(I)I"⟩, prog_1_method_46_code, 4, (Option.some FieldType.int), 2, 362, 361, 7, 50),
  (⟨"QueueBroker$Channel", "letGoOf", "(I)I"⟩, prog_3_method_6_code, 4, (Option.some FieldType.int), 2, 366, 364, 365, 56),
  (⟨"QueueBroker$Queue", "reset", "()V"⟩, prog_9_method_6_code, 1, (Option.none : Option FieldType), 1, 374, 372, 373, 55),
  (⟨"java/util/ArrayList", "clear", "()V"⟩, prog_19_method_40_code, 4, (Option.none : Option FieldType), 1, 378, 376, 377, 53),
  (⟨"QueueBroker", "publish", "(IIIII)I"⟩, prog_1_method_7_code, 9, (Option.some FieldType.int), 6, 382, 380, 381, 50),
  (⟨"QueueBroker", "isChannel", "(I)Z"⟩, prog_1_method_22_code, 1, (Option.some FieldType.boolean), 1, 385, 384, 0, 50),
  (⟨"QueueBroker", "isKey", "(I)Z"⟩, prog_1_method_28_code, 2, (Option.some FieldType.boolean), 1, 388, 387, 0, 50),
  (⟨"QueueBroker$Message", "<init>", "(IIIZ)V"⟩, prog_8_method_1_code, 5, (Option.none : Option FieldType), 5, 393, 392, 0, 65),
  (⟨"QueueBroker$Deed", "<init>", "(ILQueueBroker$Message;I)V"⟩, prog_6_method_1_code, 4, (Option.none : Option FieldType), 4, 417, 416, 0, 66),
  (⟨"QueueBroker", "countChosen", "(II)I"⟩, prog_1_method_34_code, 5, (Option.some FieldType.int), 3, 435, 434, 8, 50),
  (⟨"QueueBroker", "isChosen", "(III)Z"⟩, prog_1_method_33_code, 7, (Option.some FieldType.boolean), 4, 439, 438, 9, 50),
  (⟨"QueueBroker", "isMatch", "(II)Z"⟩, prog_1_method_29_code, 6, (Option.some FieldType.boolean), 2, 442, 441, 0, 50),
  (⟨"QueueBroker", "reachFurther", "(III)I"⟩, prog_1_method_30_code, 5, (Option.some FieldType.int), 3, 445, 444, 0, 50),
  (⟨"QueueBroker", "route", "(ILQueueBroker$Message;)V"⟩, prog_1_method_35_code, 4, (Option.none : Option FieldType), 3, 449, 448, 10, 50),
  (⟨"QueueBroker", "put", "(ILQueueBroker$Message;)V"⟩, prog_1_method_36_code, 5, (Option.none : Option FieldType), 3, 453, 452, 11, 50),
  (⟨"QueueBroker$Copy", "<init>", "(LQueueBroker$Message;II)V"⟩, prog_5_method_1_code, 4, (Option.none : Option FieldType), 4, 458, 457, 0, 67),
  (⟨"QueueBroker$Queue", "insert", "(LQueueBroker$Copy;)V"⟩, prog_9_method_2_code, 3, (Option.none : Option FieldType), 2, 492, 490, 491, 55),
  (⟨"java/util/ArrayList", "add", "(ILjava/lang/Object;)V"⟩, prog_19_method_26_code, 5, (Option.none : Option FieldType), 3, 499, 497, 498, 53),
  (⟨"java/util/ArrayList", "rangeCheckForAdd", "(I)V"⟩, prog_19_method_45_code, 2, (Option.none : Option FieldType), 2, 503, 502, 12, 53),
  (⟨"QueueBroker", "routeLetters", "()V"⟩, prog_1_method_37_code, 4, (Option.none : Option FieldType), 1, 507, 506, 13, 50),
  (⟨"QueueBroker", "canGoOn", "(LQueueBroker$Copy;)Z"⟩, prog_1_method_38_code, 2, (Option.some FieldType.boolean), 2, 512, 511, 14, 50),
  (⟨"QueueBroker$Message", "withOneHopMore", "()LQueueBroker$Message;"⟩, prog_8_method_2_code, 1, (Option.some (FieldType.object "QueueBroker$Message")), 1, 516, 514, 515, 65),
  (⟨"QueueBroker", "consume", "(IIZ)I"⟩, prog_1_method_8_code, 4, (Option.some FieldType.int), 4, 523, 521, 522, 50),
  (⟨"QueueBroker$Queue", "findConsumer", "(I)I"⟩, prog_9_method_3_code, 3, (Option.some FieldType.int), 2, 527, 525, 526, 55),
  (⟨"QueueBroker$Consumer", "<init>", "(IZ)V"⟩, prog_4_method_1_code, 3, (Option.none : Option FieldType), 3, 533, 532, 0, 68),
  (⟨"QueueBroker", "cancel", "(II)I"⟩, prog_1_method_9_code, 3, (Option.some FieldType.int), 3, 548, 546, 547, 50),
  (⟨"QueueBroker$Queue", "removeConsumer", "(I)Z"⟩, prog_9_method_4_code, 3, (Option.some FieldType.boolean), 2, 552, 550, 551, 55),
  (⟨"QueueBroker", "deliver", "(I)I"⟩, prog_1_method_10_code, 6, (Option.some FieldType.int), 2, 558, 556, 557, 50),
  (⟨"java/util/ArrayList", "isEmpty", "()Z"⟩, prog_19_method_9_code, 1, (Option.some FieldType.boolean), 1, 562, 560, 561, 53),
  (⟨"QueueBroker", "findAbleConsumer", "(LQueueBroker$Queue;)I"⟩, prog_1_method_39_code, 5, (Option.some FieldType.int), 2, 566, 565, 15, 50),
  (⟨"QueueBroker$Channel", "hold", "(LQueueBroker$Copy;)V"⟩, prog_3_method_2_code, 2, (Option.none : Option FieldType), 2, 570, 568, 569, 56),
  (⟨"QueueBroker", "settle", "(IIZI)I"⟩, prog_1_method_11_code, 8, (Option.some FieldType.int), 5, 575, 573, 574, 50),
  (⟨"QueueBroker$Channel", "countSettled", "(IZ)I"⟩, prog_3_method_4_code, 5, (Option.some FieldType.int), 3, 579, 577, 578, 56),
  (⟨"QueueBroker$Channel", "isSettled", "(LQueueBroker$Copy;IZ)Z"⟩, prog_3_method_3_code, 4, (Option.some FieldType.boolean), 4, 583, 581, 582, 56),
  (⟨"QueueBroker$Channel", "markSettled", "(IZI)V"⟩, prog_3_method_5_code, 5, (Option.none : Option FieldType), 4, 587, 585, 586, 56),
  (⟨"QueueBroker", "settleMarked", "(LQueueBroker$Channel;II)V"⟩, prog_1_method_40_code, 7, (Option.none : Option FieldType), 4, 591, 590, 16, 50),
  (⟨"QueueBroker", "settleCopy", "(LQueueBroker$Copy;I)V"⟩, prog_1_method_41_code, 3, (Option.none : Option FieldType), 3, 595, 594, 17, 50),
  (⟨"QueueBroker", "giveBack", "(LQueueBroker$Copy;)V"⟩, prog_1_method_42_code, 2, (Option.none : Option FieldType), 2, 599, 598, 18, 50),
  (⟨"QueueBroker", "prefetch", "(II)I"⟩, prog_1_method_12_code, 3, (Option.some FieldType.int), 3, 603, 601, 602, 50),
  (⟨"QueueBroker", "begin", "(I)I"⟩, prog_1_method_13_code, 2, (Option.some FieldType.int), 2, 607, 605, 606, 50),
  (⟨"QueueBroker", "commit", "(I)I"⟩, prog_1_method_14_code, 5, (Option.some FieldType.int), 2, 611, 609, 610, 50),
  (⟨"QueueBroker", "doDeed", "(LQueueBroker$Channel;I)V"⟩, prog_1_method_43_code, 4, (Option.none : Option FieldType), 3, 615, 614, 19, 50),
  (⟨"QueueBroker$Channel", "forgetDeeds", "()V"⟩, prog_3_method_7_code, 2, (Option.none : Option FieldType), 1, 619, 617, 618, 56),
  (⟨"QueueBroker", "rollback", "(I)I"⟩, prog_1_method_15_code, 3, (Option.some FieldType.int), 2, 624, 622, 623, 50),
  (⟨"QueueBroker", "close", "(I)I"⟩, prog_1_method_16_code, 2, (Option.some FieldType.int), 2, 628, 626, 627, 50),
  (⟨"QueueBroker", "closeChannel", "(I)V"⟩, prog_1_method_44_code, 4, (Option.none : Option FieldType), 2, 632, 631, 20, 50),
  (⟨"QueueBroker$Channel", "reset", "()V"⟩, prog_3_method_8_code, 1, (Option.none : Option FieldType), 1, 636, 634, 635, 56),
  (⟨"QueueBroker", "crash", "()I"⟩, prog_1_method_17_code, 3, (Option.some FieldType.int), 1, 640, 638, 639, 50),
  (⟨"QueueBroker", "forgetExchange", "(I)V"⟩, prog_1_method_45_code, 3, (Option.none : Option FieldType), 2, 644, 643, 21, 50),
  (⟨"QueueBroker$Queue", "keepPersistent", "()V"⟩, prog_9_method_5_code, 2, (Option.none : Option FieldType), 1, 648, 646, 647, 55),
  (⟨"QueueBroker", "ready", "(III)J"⟩, prog_1_method_18_code, 4, (Option.some FieldType.long), 4, 652, 650, 651, 50),
  (⟨"QueueBroker", "readyField", "(LQueueBroker$Copy;I)J"⟩, prog_1_method_47_code, 2, (Option.some FieldType.long), 2, 656, 655, 0, 50),
  (⟨"QueueBroker", "held", "(III)J"⟩, prog_1_method_19_code, 4, (Option.some FieldType.long), 4, 660, 658, 659, 50),
  (⟨"QueueBroker", "heldField", "(LQueueBroker$Copy;I)J"⟩, prog_1_method_48_code, 2, (Option.some FieldType.long), 2, 663, 662, 0, 50),
  (⟨"QueueBroker", "count", "(II)I"⟩, prog_1_method_20_code, 3, (Option.some FieldType.int), 3, 667, 665, 666, 50),
  (⟨"QueueBroker", "countDeeds", "(I)I"⟩, prog_1_method_49_code, 2, (Option.some FieldType.int), 2, 671, 670, 22, 50),
  (⟨"QueueBroker", "countBindings", "(I)I"⟩, prog_1_method_32_code, 4, (Option.some FieldType.int), 2, 675, 674, 23, 50),
  (⟨"QueueBroker", "channelInFirstRow", "(I)I"⟩, prog_1_method_50_code, 2, (Option.some FieldType.int), 2, 679, 678, 24, 50),
  (⟨"QueueBrokerModel", "<init>", "()V"⟩, prog_11_method_1_code, 2, (Option.none : Option FieldType), 1, 684, 683, 0, 57),
  (⟨"QueueBrokerModel", "exchange", "(IIZ)I"⟩, prog_11_method_21_code, 4, (Option.some FieldType.int), 4, 821, 819, 820, 57),
  (⟨"QueueBrokerModel", "in", "(II)Z"⟩, prog_11_method_2_code, 2, (Option.some FieldType.boolean), 2, 824, 823, 0, 57),
  (⟨"QueueBrokerModel", "queue", "(IIIZ)I"⟩, prog_11_method_22_code, 5, (Option.some FieldType.int), 5, 828, 826, 827, 57),
  (⟨"QueueBrokerModel", "isQ", "(I)Z"⟩, prog_11_method_4_code, 2, (Option.some FieldType.boolean), 2, 832, 831, 25, 57),
  (⟨"QueueBrokerModel", "bind", "(III)I"⟩, prog_11_method_24_code, 4, (Option.some FieldType.int), 4, 836, 834, 835, 57),
  (⟨"QueueBrokerModel", "isE", "(I)Z"⟩, prog_11_method_3_code, 2, (Option.some FieldType.boolean), 2, 840, 839, 26, 57),
  (⟨"QueueBrokerModel", "isPattern", "(I)Z"⟩, prog_11_method_7_code, 2, (Option.some FieldType.boolean), 1, 843, 842, 0, 57),
  (⟨"QueueBrokerModel", "firstDigit", "(I)I"⟩, prog_11_method_6_code, 2, (Option.some FieldType.int), 1, 846, 845, 0, 57),
  (⟨"QueueBrokerModel", "digit", "(II)I"⟩, prog_11_method_5_code, 2, (Option.some FieldType.int), 2, 849, 848, 0, 57),
  (⟨"QueueBrokerModel", "binding", "(III)I"⟩, prog_11_method_23_code, 5, (Option.some FieldType.int), 4, 853, 852, 27, 57),
  (⟨"QueueBrokerModel", "unbind", "(III)I"⟩, prog_11_method_26_code, 5, (Option.some FieldType.int), 4, 857, 855, 856, 57),
  (⟨"QueueBrokerModel", "unbindAt", "(I)V"⟩, prog_11_method_25_code, 2, (Option.none : Option FieldType), 2, 861, 860, 28, 57),
  (⟨"QueueBrokerModel", "drop", "(I)I"⟩, prog_11_method_29_code, 4, (Option.some FieldType.int), 2, 865, 863, 864, 57),
  (⟨"QueueBrokerModel", "remove", "(I)V"⟩, prog_11_method_11_code, 2, (Option.none : Option FieldType), 2, 869, 868, 29, 57),
  (⟨"QueueBrokerModel", "removeConsumer", "(I)V"⟩, prog_11_method_27_code, 3, (Option.none : Option FieldType), 2, 873, 872, 30, 57),
  (⟨"QueueBrokerModel", "publish", "(IIIII)I"⟩, prog_11_method_31_code, 7, (Option.some FieldType.int), 6, 877, 875, 876, 57),
  (⟨"QueueBrokerModel", "isKey", "(I)Z"⟩, prog_11_method_8_code, 2, (Option.some FieldType.boolean), 1, 880, 879, 0, 57),
  (⟨"QueueBrokerModel", "note", "(IIIII)I"⟩, prog_11_method_30_code, 7, (Option.some FieldType.int), 6, 884, 883, 31, 57),
  (⟨"QueueBrokerModel", "choose", "(II)I"⟩, prog_11_method_10_code, 6, (Option.some FieldType.int), 3, 888, 887, 32, 57),
  (⟨"QueueBrokerModel", "matches", "(II)Z"⟩, prog_11_method_9_code, 9, (Option.some FieldType.boolean), 3, 892, 891, 33, 57),
  (⟨"QueueBrokerModel", "route", "(IIIIZ)I"⟩, prog_11_method_18_code, 8, (Option.some FieldType.int), 6, 896, 895, 34, 57),
  (⟨"QueueBrokerModel", "put", "(IIIIZ)V"⟩, prog_11_method_17_code, 9, (Option.none : Option FieldType), 6, 900, 899, 35, 57),
  (⟨"QueueBrokerModel", "readyCount", "(I)I"⟩, prog_11_method_12_code, 4, (Option.some FieldType.int), 2, 904, 903, 36, 57),
  (⟨"QueueBrokerModel", "readyAt", "(II)I"⟩, prog_11_method_13_code, 6, (Option.some FieldType.int), 3, 908, 907, 37, 57),
  (⟨"QueueBrokerModel", "letter", "(I)V"⟩, prog_11_method_16_code, 2, (Option.none : Option FieldType), 2, 912, 911, 38, 57),
  (⟨"QueueBrokerModel", "routeLetters", "()V"⟩, prog_11_method_19_code, 3, (Option.none : Option FieldType), 1, 916, 915, 39, 57),
  (⟨"QueueBrokerModel", "consume", "(IIZ)I"⟩, prog_11_method_33_code, 4, (Option.some FieldType.int), 4, 920, 918, 919, 57),
  (⟨"QueueBrokerModel", "consumer", "(II)I"⟩, prog_11_method_32_code, 4, (Option.some FieldType.int), 3, 924, 923, 40, 57),
  (⟨"QueueBrokerModel", "addConsumer", "(IIZ)V"⟩, prog_11_method_28_code, 4, (Option.none : Option FieldType), 4, 928, 927, 41, 57),
  (⟨"QueueBrokerModel", "cancel", "(II)I"⟩, prog_11_method_34_code, 4, (Option.some FieldType.int), 3, 932, 930, 931, 57),
  (⟨"QueueBrokerModel", "deliver", "(I)I"⟩, prog_11_method_35_code, 6, (Option.some FieldType.int), 2, 936, 934, 935, 57),
  (⟨"QueueBrokerModel", "heldCount", "(I)I"⟩, prog_11_method_14_code, 4, (Option.some FieldType.int), 2, 940, 939, 42, 57),
  (⟨"QueueBrokerModel", "settle", "(IIZI)I"⟩, prog_11_method_38_code, 8, (Option.some FieldType.int), 5, 944, 942, 943, 57),
  (⟨"QueueBrokerModel", "meant", "(IIIZ)Z"⟩, prog_11_method_36_code, 5, (Option.some FieldType.boolean), 5, 948, 947, 43, 57),
  (⟨"QueueBrokerModel", "settleAll", "(IIIZI)I"⟩, prog_11_method_37_code, 12, (Option.some FieldType.int), 6, 952, 951, 44, 57),
  (⟨"QueueBrokerModel", "settleOne", "(II)V"⟩, prog_11_method_20_code, 3, (Option.none : Option FieldType), 3, 956, 955, 45, 57),
  (⟨"QueueBrokerModel", "prefetch", "(II)I"⟩, prog_11_method_39_code, 3, (Option.some FieldType.int), 3, 960, 958, 959, 57),
  (⟨"QueueBrokerModel", "begin", "(I)I"⟩, prog_11_method_40_code, 2, (Option.some FieldType.int), 2, 964, 962, 963, 57),
  (⟨"QueueBrokerModel", "commit", "(I)I"⟩, prog_11_method_42_code, 4, (Option.some FieldType.int), 2, 968, 966, 967, 57),
  (⟨"QueueBrokerModel", "forget", "(I)I"⟩, prog_11_method_41_code, 4, (Option.some FieldType.int), 2, 972, 971, 46, 57),
  (⟨"QueueBrokerModel", "rollback", "(I)I"⟩, prog_11_method_43_code, 2, (Option.some FieldType.int), 2, 976, 974, 975, 57),
  (⟨"QueueBrokerModel", "close", "(I)I"⟩, prog_11_method_44_code, 3, (Option.some FieldType.int), 2, 980, 978, 979, 57),
  (⟨"QueueBrokerModel", "crash", "()I"⟩, prog_11_method_45_code, 3, (Option.some FieldType.int), 1, 984, 982, 983, 57),
  (⟨"QueueBrokerModel", "ready", "(III)J"⟩, prog_11_method_47_code, 5, (Option.some FieldType.long), 4, 990, 988, 989, 57),
  (⟨"QueueBrokerModel", "field", "(II)J"⟩, prog_11_method_46_code, 3, (Option.some FieldType.long), 3, 995, 994, 47, 57),
  (⟨"QueueBrokerModel", "held", "(III)J"⟩, prog_11_method_48_code, 5, (Option.some FieldType.long), 4, 999, 997, 998, 57),
  (⟨"QueueBrokerModel", "heldAt", "(II)I"⟩, prog_11_method_15_code, 6, (Option.some FieldType.int), 3, 1003, 1002, 48, 57),
  (⟨"QueueBrokerModel", "count", "(II)I"⟩, prog_11_method_49_code, 6, (Option.some FieldType.int), 3, 1007, 1005, 1006, 57)]
/-- QueueBroker.<init>()V -/
def bk_0 : List (Nat × List Ins) := [(0, [(.aload_n 0, 1, []), (.invokespecial 1, 3, [74]), (.aload_n 0, 1, []), (.iconst 5, 1, []), (.anewarray 9, 3, [100, 77]), (.putfield 11, 3, [9, 0, 186, 1]), (.aload_n 0, 1, []), (.bipush 6, 2, []), (.anewarray 15, 3, [101, 79]), (.putfield 17, 3, [9, 1, 187, 1]), (.aload_n 0, 1, []), (.iconst 4, 1, []), (.anewarray 21, 3, [102, 81]), (.putfield 23, 3, [9, 2, 188, 1]), (.aload_n 0, 1, []), (.new 27, 3, [10, 83]), (.dup, 1, []), (.invokespecial 29, 3, [1, 0, 0, 85, 10]), (.putfield 30, 3, [9, 3, 189, 1]), (.aload_n 0, 1, []), (.new 27, 3, [10, 83]), (.dup, 1, []), (.invokespecial 29, 3, [1, 0, 0, 85, 10]), (.putfield 34, 3, [9, 4, 190, 1]), (.aload_n 0, 1, []), (.iconst 0, 1, []), (.putfield 37, 3, [9, 5, 191, 0]), (.aload_n 0, 1, []), (.iconst 0, 1, []), (.putfield 41, 3, [9, 6, 192, 0]), (.aload_n 0, 1, []), (.iconst 0, 1, []), (.putfield 44, 3, [9, 7, 193, 0]), (.iconst 0, 1, []), (.istore_n 1, 1, [])]),
  (68, [(.iload_n 1, 1, []), (.iconst 5, 1, []), (.if_icmp .ge 22, 3, [92]), (.aload_n 0, 1, []), (.getfield 11, 3, [9, 0, 186, 1]), (.iload_n 1, 1, []), (.new 9, 3, [6, 77]), (.dup, 1, []), (.invokespecial 47, 3, [4, 0, 0, 110, 6]), (.aastore, 1, []), (.iinc 1 1, 3, []), (.goto (-21), 3, [68])]),
  (92, [(.iconst 0, 1, []), (.istore_n 1, 1, [])]),
  (94, [(.iload_n 1, 1, []), (.bipush 6, 2, []), (.if_icmp .ge 22, 3, [119]), (.aload_n 0, 1, []), (.getfield 17, 3, [9, 1, 187, 1]), (.iload_n 1, 1, []), (.new 15, 3, [8, 79]), (.dup, 1, []), (.invokespecial 48, 3, [5, 0, 0, 128, 8]), (.aastore, 1, []), (.iinc 1 1, 3, []), (.goto (-22), 3, [94])]),
  (119, [(.iconst 0, 1, []), (.istore_n 1, 1, [])]),
  (121, [(.iload_n 1, 1, []), (.iconst 4, 1, []), (.if_icmp .ge 22, 3, [145]), (.aload_n 0, 1, []), (.getfield 23, 3, [9, 2, 188, 1]), (.iload_n 1, 1, []), (.new 21, 3, [2, 81]), (.dup, 1, []), (.invokespecial 49, 3, [6, 0, 0, 160, 2]), (.aastore, 1, []), (.iinc 1 1, 3, []), (.goto (-21), 3, [121])]),
  (145, [(.return_, 1, [])])]
/-- java/util/ArrayList.<init>()V -/
def bk_1 : List (Nat × List Ins) := [(0, [(.aload_n 0, 1, []), (.invokespecial 1, 3, [2, 0, 0, 88, 0]), (.aload_n 0, 1, []), (.getstatic 39, 3, [95]), (.putfield 9, 3, [10, 1, 97, 1]), (.return_, 1, [])])]
/-- java/util/AbstractList.<init>()V -/
def bk_2 : List (Nat × List Ins) := [(0, [(.aload_n 0, 1, []), (.invokespecial 1, 3, [3, 0, 0, 91, 0]), (.aload_n 0, 1, []), (.iconst 0, 1, []), (.putfield 7, 3, [10, 0, 99, 0]), (.return_, 1, [])])]
/-- java/util/AbstractCollection.<init>()V -/
def bk_3 : List (Nat × List Ins) := [(0, [(.aload_n 0, 1, []), (.invokespecial 1, 3, [94]), (.return_, 1, [])])]
/-- QueueBroker$Exchange.<init>()V -/
def bk_4 : List (Nat × List Ins) := [(0, [(.aload_n 0, 1, []), (.invokespecial 3, 3, [113]), (.aload_n 0, 1, []), (.iconst 0, 1, []), (.putfield 9, 3, [6, 0, 114, 4]), (.aload_n 0, 1, []), (.iconst 0, 1, []), (.putfield 15, 3, [6, 1, 116, 0]), (.aload_n 0, 1, []), (.iconst 0, 1, []), (.putfield 19, 3, [6, 2, 118, 4]), (.return_, 1, [])])]
/-- QueueBroker$Queue.<init>()V -/
def bk_5 : List (Nat × List Ins) := [(0, [(.aload_n 0, 1, []), (.invokespecial 3, 3, [131]), (.aload_n 0, 1, []), (.iconst 0, 1, []), (.putfield 9, 3, [8, 0, 134, 4]), (.aload_n 0, 1, []), (.iconst 1, 1, []), (.putfield 15, 3, [8, 1, 136, 0]), (.aload_n 0, 1, []), (.iconst (-1), 1, []), (.putfield 19, 3, [8, 2, 138, 0]), (.aload_n 0, 1, []), (.iconst 0, 1, []), (.putfield 22, 3, [8, 3, 140, 4]), (.aload_n 0, 1, []), (.new 25, 3, [10, 132]), (.dup, 1, []), (.invokespecial 27, 3, [1, 0, 0, 133, 10]), (.putfield 28, 3, [8, 4, 142, 1]), (.aload_n 0, 1, []), (.new 25, 3, [10, 132]), (.dup, 1, []), (.invokespecial 27, 3, [1, 0, 0, 133, 10]), (.putfield 32, 3, [8, 5, 144, 1]), (.return_, 1, [])])]
/-- QueueBroker$Channel.<init>()V -/
def bk_6 : List (Nat × List Ins) := [(0, [(.aload_n 0, 1, []), (.invokespecial 3, 3, [163]), (.aload_n 0, 1, []), (.bipush 12, 2, []), (.putfield 9, 3, [2, 0, 166, 0]), (.aload_n 0, 1, []), (.iconst 0, 1, []), (.putfield 15, 3, [2, 1, 168, 4]), (.aload_n 0, 1, []), (.iconst 0, 1, []), (.putfield 19, 3, [2, 2, 170, 0]), (.aload_n 0, 1, []), (.new 22, 3, [10, 164]), (.dup, 1, []), (.invokespecial 24, 3, [1, 0, 0, 165, 10]), (.putfield 25, 3, [2, 3, 171, 1]), (.aload_n 0, 1, []), (.new 22, 3, [10, 164]), (.dup, 1, []), (.invokespecial 24, 3, [1, 0, 0, 165, 10]), (.putfield 29, 3, [2, 4, 173, 1]), (.return_, 1, [])])]
/-- QueueBroker.exchange(IIZ)I -/
def bk_7 : List (Nat × List Ins) := [(0, [(.iload_n 1, 1, []), (.iconst 0, 1, []), (.iconst 4, 1, []), (.invokestatic 50, 3, [8, 3, 1, 215]), (.ifCond .eq 12, 3, [18]), (.iload_n 2, 1, []), (.iconst 0, 1, []), (.iconst 2, 1, []), (.invokestatic 50, 3, [8, 3, 1, 215]), (.ifCond .ne 5, 3, [20])]),
  (18, [(.iconst (-1), 1, []), (.ireturn, 1, [0])]),
  (20, [(.aload_n 0, 1, []), (.getfield 11, 3, [9, 0, 186, 1]), (.iload_n 1, 1, []), (.aaload, 1, []), (.astore 4, 2, []), (.aload 4, 2, []), (.getfield 54, 3, [6, 0, 115, 0]), (.ifCond .eq 28, 3, [61]), (.aload 4, 2, []), (.getfield 58, 3, [6, 1, 117, 0]), (.iload_n 2, 1, []), (.if_icmp .ne 16, 3, [58]), (.aload 4, 2, []), (.getfield 61, 3, [6, 2, 119, 0]), (.iload_n 3, 1, []), (.if_icmp .ne 7, 3, [58]), (.iconst 0, 1, []), (.goto 5, 3, [60])]),
  (58, [(.bipush (-3), 2, [])]),
  (60, [(.ireturn, 1, [0])]),
  (61, [(.aload 4, 2, []), (.iconst 1, 1, []), (.putfield 54, 3, [6, 0, 115, 4]), (.aload 4, 2, []), (.iload_n 2, 1, []), (.putfield 58, 3, [6, 1, 117, 0]), (.aload 4, 2, []), (.iload_n 3, 1, []), (.putfield 61, 3, [6, 2, 119, 4]), (.iconst 0, 1, []), (.ireturn, 1, [0])])]
/-- QueueBroker.isWithin(III)Z -/
def bk_8 : List (Nat × List Ins) := [(0, [(.iload_n 0, 1, []), (.iload_n 1, 1, []), (.if_icmp .lt 12, 3, [14]), (.iload_n 0, 1, []), (.iload_n 2, 1, []), (.if_icmp .gt 7, 3, [14]), (.iconst 1, 1, []), (.goto 4, 3, [15])]),
  (14, [(.iconst 0, 1, [])]),
  (15, [(.ireturn, 1, [4])])]
/-- QueueBroker.queue(IIIZ)I -/
def bk_9 : List (Nat × List Ins) := [(0, [(.iload_n 1, 1, []), (.iconst 0, 1, []), (.iconst 5, 1, []), (.invokestatic 50, 3, [8, 3, 1, 215]), (.ifCond .eq 22, 3, [28]), (.iload_n 2, 1, []), (.iconst 1, 1, []), (.bipush 12, 2, []), (.invokestatic 50, 3, [8, 3, 1, 215]), (.ifCond .eq 12, 3, [28]), (.iload_n 3, 1, []), (.iconst (-1), 1, []), (.iconst 4, 1, []), (.invokestatic 50, 3, [8, 3, 1, 215]), (.ifCond .ne 5, 3, [30])]),
  (28, [(.iconst (-1), 1, []), (.ireturn, 1, [0])]),
  (30, [(.aload_n 0, 1, []), (.getfield 17, 3, [9, 1, 187, 1]), (.iload_n 1, 1, []), (.aaload, 1, []), (.astore 5, 2, []), (.aload 5, 2, []), (.getfield 64, 3, [8, 0, 135, 0]), (.ifCond .eq 38, 3, [81]), (.aload 5, 2, []), (.getfield 65, 3, [8, 1, 137, 0]), (.iload_n 2, 1, []), (.if_icmp .ne 26, 3, [78]), (.aload 5, 2, []), (.getfield 68, 3, [8, 2, 139, 0]), (.iload_n 3, 1, []), (.if_icmp .ne 17, 3, [78]), (.aload 5, 2, []), (.getfield 71, 3, [8, 3, 141, 0]), (.iload 4, 2, []), (.if_icmp .ne 7, 3, [78]), (.iconst 0, 1, []), (.goto 5, 3, [80])]),
  (78, [(.bipush (-3), 2, [])]),
  (80, [(.ireturn, 1, [0])]),
  (81, [(.aload 5, 2, []), (.iconst 1, 1, []), (.putfield 64, 3, [8, 0, 135, 4]), (.aload 5, 2, []), (.iload_n 2, 1, []), (.putfield 65, 3, [8, 1, 137, 0]), (.aload 5, 2, []), (.iload_n 3, 1, []), (.putfield 68, 3, [8, 2, 139, 0]), (.aload 5, 2, []), (.iload 4, 2, []), (.putfield 71, 3, [8, 3, 141, 4]), (.iconst 0, 1, []), (.ireturn, 1, [0])])]
/-- QueueBroker.bind(III)I -/
def bk_10 : List (Nat × List Ins) := [(0, [(.aload_n 0, 1, []), (.iload_n 1, 1, []), (.invokevirtual 72, 3, [11, 1, 1, 226, 9]), (.ifCond .eq 18, 3, [23]), (.aload_n 0, 1, []), (.iload_n 2, 1, []), (.invokevirtual 76, 3, [12, 1, 1, 230, 9]), (.ifCond .eq 10, 3, [23]), (.iload_n 3, 1, []), (.invokestatic 79, 3, [13, 1, 1, 234]), (.ifCond .ne 5, 3, [25])]),
  (23, [(.iconst (-1), 1, []), (.ireturn, 1, [0])]),
  (25, [(.aload_n 0, 1, []), (.iload_n 1, 1, []), (.iload_n 2, 1, []), (.iload_n 3, 1, []), (.invokevirtual 82, 3, [16, 3, 1, 243, 9]), (.iconst (-1), 1, []), (.if_icmp .eq 6, 3, [39]), (.bipush (-3), 2, []), (.ireturn, 1, [0])]),
  (39, [(.aload_n 0, 1, []), (.getfield 30, 3, [9, 3, 189, 1]), (.invokevirtual 86, 3, [17, 0, 1, 247, 10]), (.bipush 24, 2, []), (.if_icmp .lt 6, 3, [54]), (.bipush (-2), 2, []), (.ireturn, 1, [0])]),
  (54, [(.aload_n 0, 1, []), (.getfield 30, 3, [9, 3, 189, 1]), (.new 90, 3, [1, 265]), (.dup, 1, []), (.iload_n 1, 1, []), (.iload_n 2, 1, []), (.iload_n 3, 1, []), (.invokespecial 92, 3, [22, 3, 0, 267, 1]), (.invokevirtual 95, 3, [23, 1, 1, 284, 10]), (.pop, 1, []), (.iconst 0, 1, []), (.ireturn, 1, [0])])]
/-- QueueBroker.isDeclaredExchange(I)Z -/
def bk_11 : List (Nat × List Ins) := [(0, [(.iload_n 1, 1, []), (.iconst 0, 1, []), (.iconst 4, 1, []), (.invokestatic 50, 3, [8, 3, 1, 215]), (.ifCond .eq 19, 3, [25]), (.aload_n 0, 1, []), (.getfield 11, 3, [9, 0, 186, 1]), (.iload_n 1, 1, []), (.aaload, 1, []), (.getfield 54, 3, [6, 0, 115, 0]), (.ifCond .eq 7, 3, [25]), (.iconst 1, 1, []), (.goto 4, 3, [26])]),
  (25, [(.iconst 0, 1, [])]),
  (26, [(.ireturn, 1, [4])])]
/-- QueueBroker.isDeclaredQueue(I)Z -/
def bk_12 : List (Nat × List Ins) := [(0, [(.iload_n 1, 1, []), (.iconst 0, 1, []), (.iconst 5, 1, []), (.invokestatic 50, 3, [8, 3, 1, 215]), (.ifCond .eq 19, 3, [25]), (.aload_n 0, 1, []), (.getfield 17, 3, [9, 1, 187, 1]), (.iload_n 1, 1, []), (.aaload, 1, []), (.getfield 64, 3, [8, 0, 135, 0]), (.ifCond .eq 7, 3, [25]), (.iconst 1, 1, []), (.goto 4, 3, [26])]),
  (25, [(.iconst 0, 1, [])]),
  (26, [(.ireturn, 1, [4])])]
/-- QueueBroker.isPattern(I)Z -/
def bk_13 : List (Nat × List Ins) := [(0, [(.iload_n 0, 1, []), (.invokestatic 236, 3, [14, 1, 1, 237]), (.istore_n 1, 1, [])]),
  (5, [(.iload_n 1, 1, []), (.bipush 8, 2, []), (.if_icmp .ge 19, 3, [27]), (.iload_n 0, 1, []), (.iload_n 1, 1, []), (.invokestatic 233, 3, [15, 2, 1, 240]), (.ifCond .eq 5, 3, [21]), (.iconst 0, 1, []), (.ireturn, 1, [4])]),
  (21, [(.iinc 1 1, 3, []), (.goto (-19), 3, [5])]),
  (27, [(.iconst 1, 1, []), (.ireturn, 1, [4])])]
/-- QueueBroker.countItems(I)I -/
def bk_14 : List (Nat × List Ins) := [(0, [(.iconst 0, 1, []), (.istore_n 1, 1, [])]),
  (2, [(.iload_n 1, 1, []), (.bipush 8, 2, []), (.if_icmp .ge 17, 3, [22]), (.iload_n 0, 1, []), (.iload_n 1, 1, []), (.invokestatic 233, 3, [15, 2, 1, 240]), (.ifCond .eq 9, 3, [22]), (.iinc 1 1, 3, []), (.goto (-17), 3, [2])]),
  (22, [(.iload_n 1, 1, []), (.ireturn, 1, [0])])]
/-- QueueBroker.itemAt(II)I -/
def bk_15 : List (Nat × List Ins) := [(0, [(.iload_n 0, 1, []), (.iconst 4, 1, []), (.iload_n 1, 1, []), (.imul, 1, []), (.iushr, 1, []), (.bipush 15, 2, []), (.iand, 1, []), (.ireturn, 1, [0])])]
/-- QueueBroker.findBinding(III)I -/
def bk_16 : List (Nat × List Ins) := [(0, [(.iconst 0, 1, []), (.istore 4, 2, [])]),
  (3, [(.iload 4, 2, []), (.aload_n 0, 1, []), (.getfield 30, 3, [9, 3, 189, 1]), (.invokevirtual 86, 3, [17, 0, 1, 247, 10]), (.if_icmp .ge 53, 3, [65]), (.aload_n 0, 1, []), (.getfield 30, 3, [9, 3, 189, 1]), (.iload 4, 2, []), (.invokevirtual 211, 3, [18, 1, 2, 251, 10]), (.checkcast 90, 3, [1, 265, 1008]), (.astore 5, 2, []), (.aload 5, 2, []), (.getfield 242, 3, [1, 0, 272, 0]), (.iload_n 1, 1, []), (.if_icmp .ne 24, 3, [59]), (.aload 5, 2, []), (.getfield 245, 3, [1, 1, 274, 0]), (.iload_n 2, 1, []), (.if_icmp .ne 15, 3, [59]), (.aload 5, 2, []), (.getfield 248, 3, [1, 2, 276, 0]), (.iload_n 3, 1, []), (.if_icmp .ne 6, 3, [59]), (.iload 4, 2, []), (.ireturn, 1, [0])]),
  (59, [(.iinc 4 1, 3, []), (.goto (-59), 3, [3])]),
  (65, [(.iconst (-1), 1, []), (.ireturn, 1, [0])])]
/-- java/util/ArrayList.size()I -/
def bk_17 : List (Nat × List Ins) := [(0, [(.aload_n 0, 1, []), (.getfield 48, 3, [10, 2, 98, 0]), (.ireturn, 1, [0])])]
/-- java/util/ArrayList.get(I)Ljava/lang/Object; -/
def bk_18 : List (Nat × List Ins) := [(0, [(.iload_n 1, 1, []), (.aload_n 0, 1, []), (.getfield 48, 3, [10, 2, 98, 0]), (.invokestatic 118, 3, [19, 2, 1, 255]), (.pop, 1, []), (.aload_n 0, 1, []), (.iload_n 1, 1, []), (.invokevirtual 123, 3, [21, 1, 2, 261, 10]), (.areturn, 1, [])])]
/-- java/util/Objects.checkIndex(II)I -/
def bk_19 : List (Nat × List Ins) := [(0, [(.iload_n 0, 1, []), (.iload_n 1, 1, []), (.aconst_null, 1, []), (.invokestatic 105, 3, [20, 3, 1, 258]), (.ireturn, 1, [0])])]
/-- jdk/internal/util/Preconditions.checkIndex(IILjava/util/function/BiFunction;)I -/
def bk_20 : List (Nat × List Ins) := [(0, [(.iload_n 0, 1, []), (.ifCond .lt 8, 3, [9]), (.iload_n 0, 1, []), (.iload_n 1, 1, []), (.if_icmp .lt 10, 3, [16])]),
  (9, [(.aload_n 2, 1, []), (.iload_n 0, 1, []), (.iload_n 1, 1, []), (.invokestatic 95, 3, [])]),
  (16, [(.iload_n 0, 1, []), (.ireturn, 1, [0])])]
/-- java/util/ArrayList.elementData(I)Ljava/lang/Object; -/
def bk_21 : List (Nat × List Ins) := [(0, [(.aload_n 0, 1, []), (.getfield 9, 3, [10, 1, 97, 1]), (.iload_n 1, 1, []), (.aaload, 1, []), (.areturn, 1, [])])]
/-- QueueBroker$Binding.<init>(III)V -/
def bk_22 : List (Nat × List Ins) := [(0, [(.aload_n 0, 1, []), (.invokespecial 1, 3, [270]), (.aload_n 0, 1, []), (.iload_n 1, 1, []), (.putfield 7, 3, [1, 0, 271, 0]), (.aload_n 0, 1, []), (.iload_n 2, 1, []), (.putfield 13, 3, [1, 1, 273, 0]), (.aload_n 0, 1, []), (.iload_n 3, 1, []), (.putfield 16, 3, [1, 2, 275, 0]), (.return_, 1, [])])]
/-- java/util/ArrayList.add(Ljava/lang/Object;)Z -/
def bk_23 : List (Nat × List Ins) := [(0, [(.aload_n 0, 1, []), (.dup, 1, []), (.getfield 63, 3, [10, 0, 100, 0]), (.iconst 1, 1, []), (.iadd, 1, []), (.putfield 63, 3, [10, 0, 100, 0]), (.aload_n 0, 1, []), (.aload_n 1, 1, []), (.aload_n 0, 1, []), (.getfield 9, 3, [10, 1, 97, 1]), (.aload_n 0, 1, []), (.getfield 48, 3, [10, 2, 98, 0]), (.invokevirtual 131, 3, [24, 3, 0, 288, 10]), (.iconst 1, 1, []), (.ireturn, 1, [4])])]
/-- java/util/ArrayList.add(Ljava/lang/Object;[Ljava/lang/Object;I)V -/
def bk_24 : List (Nat × List Ins) := [(0, [(.iload_n 3, 1, []), (.aload_n 2, 1, []), (.arraylength, 1, []), (.if_icmp .ne 8, 3, [11]), (.aload_n 0, 1, []), (.invokevirtual 129, 3, [25, 0, 2, 292, 10]), (.astore_n 2, 1, [])]),
  (11, [(.aload_n 2, 1, []), (.iload_n 3, 1, []), (.aload_n 1, 1, []), (.aastore, 1, []), (.aload_n 0, 1, []), (.iload_n 3, 1, []), (.iconst 1, 1, []), (.iadd, 1, []), (.putfield 48, 3, [10, 2, 98, 0]), (.return_, 1, [])])]
/-- java/util/ArrayList.grow()[Ljava/lang/Object; -/
def bk_25 : List (Nat × List Ins) := [(0, [(.aload_n 0, 1, []), (.aload_n 0, 1, []), (.getfield 48, 3, [10, 2, 98, 0]), (.iconst 1, 1, []), (.iadd, 1, []), (.invokevirtual 69, 3, [26, 1, 2, 296, 10]), (.areturn, 1, [])])]
/-- java/util/ArrayList.grow(I)[Ljava/lang/Object; -/
def bk_26 : List (Nat × List Ins) := [(0, [(.aload_n 0, 1, []), (.getfield 9, 3, [10, 1, 97, 1]), (.arraylength, 1, []), (.istore_n 2, 1, []), (.iload_n 2, 1, []), (.ifCond .gt 13, 3, [20]), (.aload_n 0, 1, []), (.getfield 9, 3, [10, 1, 97, 1]), (.getstatic 39, 3, [95]), (.if_acmp .eq 28, 3, [45])]),
  (20, [(.iload_n 2, 1, []), (.iload_n 1, 1, []), (.iload_n 2, 1, []), (.isub, 1, []), (.iload_n 2, 1, []), (.iconst 1, 1, []), (.ishr, 1, []), (.invokestatic 73, 3, [27, 3, 1, 300]), (.istore_n 3, 1, []), (.aload_n 0, 1, []), (.aload_n 0, 1, []), (.getfield 9, 3, [10, 1, 97, 1]), (.iload_n 3, 1, []), (.invokestatic 66, 3, [29, 2, 2, 310]), (.dup_x1, 1, []), (.putfield 9, 3, [10, 1, 97, 1]), (.areturn, 1, [])]),
  (45, [(.aload_n 0, 1, []), (.bipush 10, 2, []), (.iload_n 1, 1, []), (.invokestatic 79, 3, [0, 340]), (.anewarray 7, 3, [103, 341]), (.dup_x1, 1, []), (.putfield 9, 3, [10, 1, 97, 1]), (.areturn, 1, [])])]
/-- jdk/internal/util/ArraysSupport.newLength(III)I -/
def bk_27 : List (Nat × List Ins) := [(0, [(.iload_n 0, 1, []), (.iload_n 1, 1, []), (.iload_n 2, 1, []), (.invokestatic 194, 3, [0, 303]), (.iadd, 1, []), (.istore_n 3, 1, []), (.iconst 0, 1, []), (.iload_n 3, 1, []), (.if_icmp .ge 11, 3, [21]), (.iload_n 3, 1, []), (.ldc 200, 2, [2147483639, 306]), (.if_icmp .gt 5, 3, [21]), (.iload_n 3, 1, []), (.ireturn, 1, [0])]),
  (21, [(.iload_n 0, 1, []), (.iload_n 1, 1, []), (.invokestatic 201, 3, [28, 2, 1, 307]), (.ireturn, 1, [0])])]
/-- jdk/internal/util/ArraysSupport.hugeLength(II)I -/
def bk_28 : List (Nat × List Ins) := [(0, [(.iload_n 0, 1, []), (.iload_n 1, 1, []), (.iadd, 1, []), (.istore_n 2, 1, []), (.iload_n 2, 1, []), (.ifCond .ge 44, 3, [49]), (.new 204, 3, [])]),
  (49, [(.iload_n 2, 1, []), (.ldc 200, 2, [2147483639, 306]), (.if_icmp .gt 6, 3, [58]), (.ldc 200, 2, [2147483639, 306]), (.ireturn, 1, [0])]),
  (58, [(.iload_n 2, 1, []), (.ireturn, 1, [0])])]
/-- java/util/Arrays.copyOf([Ljava/lang/Object;I)[Ljava/lang/Object; -/
def bk_29 : List (Nat × List Ins) := [(0, [(.aload_n 0, 1, []), (.iload_n 1, 1, []), (.aload_n 0, 1, []), (.invokevirtual 86, 3, [313]), (.invokestatic 300, 3, [30, 3, 2, 328]), (.areturn, 1, [])])]
/-- java/util/Arrays.copyOf([Ljava/lang/Object;ILjava/lang/Class;)[Ljava/lang/Object; -/
def bk_30 : List (Nat × List Ins) := [(0, [(.aload_n 2, 1, []), (.ldc 110, 2, [331]), (.if_acmp .ne 10, 3, [13]), (.iload_n 1, 1, []), (.anewarray 2, 3, [103, 333]), (.goto 14, 3, [24])]),
  (13, [(.aload_n 2, 1, []), (.invokevirtual 90, 3, [])]),
  (24, [(.astore_n 3, 1, []), (.aload_n 0, 1, []), (.iconst 0, 1, []), (.aload_n 3, 1, []), (.iconst 0, 1, []), (.aload_n 0, 1, []), (.arraylength, 1, []), (.iload_n 1, 1, []), (.invokestatic 304, 3, [1, 334]), (.invokestatic 150, 3, [2, 337]), (.aload_n 3, 1, []), (.areturn, 1, [])])]
/-- QueueBroker.unbind(III)I -/
def bk_31 : List (Nat × List Ins) := [(0, [(.aload_n 0, 1, []), (.iload_n 1, 1, []), (.invokevirtual 72, 3, [11, 1, 1, 226, 9]), (.ifCond .eq 18, 3, [23]), (.aload_n 0, 1, []), (.iload_n 2, 1, []), (.invokevirtual 76, 3, [12, 1, 1, 230, 9]), (.ifCond .eq 10, 3, [23]), (.iload_n 3, 1, []), (.invokestatic 79, 3, [13, 1, 1, 234]), (.ifCond .ne 5, 3, [25])]),
  (23, [(.iconst (-1), 1, []), (.ireturn, 1, [0])]),
  (25, [(.aload_n 0, 1, []), (.iload_n 1, 1, []), (.iload_n 2, 1, []), (.iload_n 3, 1, []), (.invokevirtual 82, 3, [16, 3, 1, 243, 9]), (.istore 4, 2, []), (.iload 4, 2, []), (.iconst (-1), 1, []), (.if_icmp .ne 6, 3, [43]), (.bipush (-3), 2, []), (.ireturn, 1, [0])]),
  (43, [(.aload_n 0, 1, []), (.getfield 30, 3, [9, 3, 189, 1]), (.iload 4, 2, []), (.invokevirtual 99, 3, [32, 1, 2, 346, 10]), (.pop, 1, []), (.iconst 0, 1, []), (.ireturn, 1, [0])])]
/-- java/util/ArrayList.remove(I)Ljava/lang/Object; -/
def bk_32 : List (Nat × List Ins) := [(0, [(.iload_n 1, 1, []), (.aload_n 0, 1, []), (.getfield 48, 3, [10, 2, 98, 0]), (.invokestatic 118, 3, [19, 2, 1, 255]), (.pop, 1, []), (.aload_n 0, 1, []), (.getfield 9, 3, [10, 1, 97, 1]), (.astore_n 2, 1, []), (.aload_n 2, 1, []), (.iload_n 1, 1, []), (.aaload, 1, []), (.astore_n 3, 1, []), (.aload_n 0, 1, []), (.aload_n 2, 1, []), (.iload_n 1, 1, []), (.invokevirtual 144, 3, [33, 2, 0, 350, 10]), (.aload_n 3, 1, []), (.areturn, 1, [])])]
/-- java/util/ArrayList.fastRemove([Ljava/lang/Object;I)V -/
def bk_33 : List (Nat × List Ins) := [(0, [(.aload_n 0, 1, []), (.dup, 1, []), (.getfield 63, 3, [10, 0, 100, 0]), (.iconst 1, 1, []), (.iadd, 1, []), (.putfield 63, 3, [10, 0, 100, 0]), (.aload_n 0, 1, []), (.getfield 48, 3, [10, 2, 98, 0]), (.iconst 1, 1, []), (.isub, 1, []), (.dup, 1, []), (.istore_n 3, 1, []), (.iload_n 2, 1, []), (.if_icmp .le 15, 3, [34]), (.aload_n 1, 1, []), (.iload_n 2, 1, []), (.iconst 1, 1, []), (.iadd, 1, []), (.aload_n 1, 1, []), (.iload_n 2, 1, []), (.iload_n 3, 1, []), (.iload_n 2, 1, []), (.isub, 1, []), (.invokestatic 112, 3, [2, 354])]),
  (34, [(.aload_n 1, 1, []), (.aload_n 0, 1, []), (.iload_n 3, 1, []), (.dup_x1, 1, []), (.putfield 48, 3, [10, 2, 98, 0]), (.aconst_null, 1, []), (.aastore, 1, []), (.return_, 1, [])])]
/-- QueueBroker.drop(I)I -/
def bk_34 : List (Nat × List Ins) := [(0, [(.aload_n 0, 1, []), (.iload_n 1, 1, []), (.invokevirtual 76, 3, [12, 1, 1, 230, 9]), (.ifCond .ne 5, 3, [10]), (.iconst (-1), 1, []), (.ireturn, 1, [0])]),
  (10, [(.aload_n 0, 1, []), (.iload_n 1, 1, []), (.invokevirtual 103, 3, [35, 1, 1, 359, 9]), (.ireturn, 1, [0])])]
/-- QueueBroker.forgetQueue(I)I -/
def bk_35 : List (Nat × List Ins) := [(0, [(.aload_n 0, 1, []), (.getfield 30, 3, [9, 3, 189, 1]), (.invokevirtual 86, 3, [17, 0, 1, 247, 10]), (.iconst 1, 1, []), (.isub, 1, []), (.istore_n 2, 1, [])]),
  (10, [(.iload_n 2, 1, []), (.ifCond .lt 36, 3, [47]), (.aload_n 0, 1, []), (.getfield 30, 3, [9, 3, 189, 1]), (.iload_n 2, 1, []), (.invokevirtual 211, 3, [18, 1, 2, 251, 10]), (.checkcast 90, 3, [1, 265, 1008]), (.getfield 245, 3, [1, 1, 274, 0]), (.iload_n 1, 1, []), (.if_icmp .ne 12, 3, [41]), (.aload_n 0, 1, []), (.getfield 30, 3, [9, 3, 189, 1]), (.iload_n 2, 1, []), (.invokevirtual 99, 3, [32, 1, 2, 346, 10]), (.pop, 1, [])]),
  (41, [(.iinc 2 (-1), 3, []), (.goto (-34), 3, [10])]),
  (47, [(.aload_n 0, 1, []), (.getfield 17, 3, [9, 1, 187, 1]), (.iload_n 1, 1, []), (.aaload, 1, []), (.getfield 154, 3, [8, 4, 143, 1]), (.invokevirtual 86, 3, [17, 0, 1, 247, 10]), (.istore_n 2, 1, []), (.iconst 0, 1, []), (.istore_n 3, 1, [])]),
  (62, [(.iload_n 3, 1, []), (.iconst 4, 1, []), (.if_icmp .ge 22, 3, [86]), (.iload_n 2, 1, []), (.aload_n 0, 1, []), (.getfield 23, 3, [9, 2, 188, 1]), (.iload_n 3, 1, []), (.aaload, 1, []), (.iload_n 1, 1, []), (.invokevirtual 311, 3, [36, 1, 1, 363, 2]), (.iadd, 1, []), (.istore_n 2, 1, []), (.iinc 3 1, 3, []), (.goto (-21), 3, [62])]),
  (86, [(.aload_n 0, 1, []), (.getfield 17, 3, [9, 1, 187, 1]), (.iload_n 1, 1, []), (.aaload, 1, []), (.invokevirtual 314, 3, [37, 0, 0, 371, 8]), (.iload_n 2, 1, []), (.ireturn, 1, [0])])]
/-- QueueBroker$Channel.letGoOf(I)I -/
def bk_36 : List (Nat × List Ins) := [(0, [(.iconst 0, 1, []), (.istore_n 2, 1, []), (.aload_n 0, 1, []), (.getfield 25, 3, [2, 3, 171, 1]), (.invokevirtual 44, 3, [17, 0, 1, 367, 10]), (.iconst 1, 1, []), (.isub, 1, []), (.istore_n 3, 1, [])]),
  (12, [(.iload_n 3, 1, []), (.ifCond .lt 39, 3, [52]), (.aload_n 0, 1, []), (.getfield 25, 3, [2, 3, 171, 1]), (.iload_n 3, 1, []), (.invokevirtual 48, 3, [18, 1, 2, 368, 10]), (.checkcast 33, 3, [4, 369, 1009]), (.getfield 56, 3, [4, 1, 464, 0]), (.iload_n 1, 1, []), (.if_icmp .ne 15, 3, [46]), (.aload_n 0, 1, []), (.getfield 25, 3, [2, 3, 171, 1]), (.iload_n 3, 1, []), (.invokevirtual 59, 3, [32, 1, 2, 370, 10]), (.pop, 1, []), (.iinc 2 1, 3, [])]),
  (46, [(.iinc 3 (-1), 3, []), (.goto (-37), 3, [12])]),
  (52, [(.iload_n 2, 1, []), (.ireturn, 1, [0])])]
/-- QueueBroker$Queue.reset()V -/
def bk_37 : List (Nat × List Ins) := [(0, [(.aload_n 0, 1, []), (.iconst 0, 1, []), (.putfield 9, 3, [8, 0, 134, 4]), (.aload_n 0, 1, []), (.getfield 28, 3, [8, 4, 142, 1]), (.invokevirtual 73, 3, [38, 0, 0, 375, 10]), (.aload_n 0, 1, []), (.getfield 32, 3, [8, 5, 144, 1]), (.invokevirtual 73, 3, [38, 0, 0, 375, 10]), (.return_, 1, [])])]
/-- java/util/ArrayList.clear()V -/
def bk_38 : List (Nat × List Ins) := [(0, [(.aload_n 0, 1, []), (.dup, 1, []), (.getfield 63, 3, [10, 0, 100, 0]), (.iconst 1, 1, []), (.iadd, 1, []), (.putfield 63, 3, [10, 0, 100, 0]), (.aload_n 0, 1, []), (.getfield 9, 3, [10, 1, 97, 1]), (.astore_n 1, 1, []), (.aload_n 0, 1, []), (.getfield 48, 3, [10, 2, 98, 0]), (.istore_n 2, 1, []), (.aload_n 0, 1, []), (.iconst 0, 1, []), (.dup_x1, 1, []), (.putfield 48, 3, [10, 2, 98, 0]), (.istore_n 3, 1, [])]),
  (27, [(.iload_n 3, 1, []), (.iload_n 2, 1, []), (.if_icmp .ge 13, 3, [42]), (.aload_n 1, 1, []), (.iload_n 3, 1, []), (.aconst_null, 1, []), (.aastore, 1, []), (.iinc 3 1, 3, []), (.goto (-12), 3, [27])]),
  (42, [(.return_, 1, [])])]
/-- QueueBroker.publish(IIIII)I -/
def bk_39 : List (Nat × List Ins) := [(0, [(.iload_n 1, 1, []), (.invokestatic 107, 3, [40, 1, 1, 383]), (.ifCond .eq 28, 3, [32]), (.aload_n 0, 1, []), (.iload_n 2, 1, []), (.invokevirtual 72, 3, [11, 1, 1, 226, 9]), (.ifCond .eq 20, 3, [32]), (.iload_n 3, 1, []), (.invokestatic 110, 3, [41, 1, 1, 386]), (.ifCond .eq 13, 3, [32]), (.iload 5, 2, []), (.iconst 0, 1, []), (.iconst 3, 1, []), (.invokestatic 50, 3, [8, 3, 1, 215]), (.ifCond .ne 5, 3, [34])]),
  (32, [(.iconst (-1), 1, []), (.ireturn, 1, [0])]),
  (34, [(.aload_n 0, 1, []), (.getfield 23, 3, [9, 2, 188, 1]), (.iload_n 1, 1, []), (.aaload, 1, []), (.astore 6, 2, []), (.aload 6, 2, []), (.getfield 113, 3, [2, 1, 169, 0]), (.ifCond .eq 18, 3, [65]), (.aload 6, 2, []), (.getfield 116, 3, [2, 4, 174, 1]), (.invokevirtual 86, 3, [17, 0, 1, 247, 10]), (.iconst 4, 1, []), (.if_icmp .lt 6, 3, [65]), (.bipush (-2), 2, []), (.ireturn, 1, [0])]),
  (65, [(.new 119, 3, [7, 389]), (.dup, 1, []), (.iload 4, 2, []), (.iload_n 3, 1, []), (.iconst 0, 1, []), (.iload 5, 2, []), (.iconst 1, 1, []), (.iand, 1, []), (.ifCond .eq 7, 3, [84]), (.iconst 1, 1, []), (.goto 4, 3, [85])]),
  (84, [(.iconst 0, 1, [])]),
  (85, [(.invokespecial 121, 3, [42, 4, 0, 391, 7]), (.astore 7, 2, []), (.aload 6, 2, []), (.getfield 113, 3, [2, 1, 169, 0]), (.ifCond .eq 26, 3, [121]), (.aload 6, 2, []), (.getfield 116, 3, [2, 4, 174, 1]), (.new 124, 3, [5, 413]), (.dup, 1, []), (.iload_n 2, 1, []), (.aload 7, 2, []), (.iconst 0, 1, []), (.invokespecial 126, 3, [43, 3, 0, 415, 5]), (.invokevirtual 95, 3, [23, 1, 1, 284, 10]), (.pop, 1, []), (.bipush 100, 2, []), (.ireturn, 1, [0])]),
  (121, [(.aload_n 0, 1, []), (.iload_n 2, 1, []), (.iload_n 3, 1, []), (.invokevirtual 129, 3, [44, 2, 1, 432, 9]), (.istore 8, 2, []), (.iload 8, 2, []), (.ifCond .ne 13, 3, [144]), (.iload 5, 2, []), (.iconst 2, 1, []), (.iand, 1, []), (.ifCond .eq 6, 3, [144]), (.bipush (-4), 2, []), (.ireturn, 1, [0])]),
  (144, [(.aload_n 0, 1, []), (.iload_n 2, 1, []), (.aload 7, 2, []), (.invokevirtual 133, 3, [48, 2, 0, 446, 9]), (.aload_n 0, 1, []), (.invokevirtual 137, 3, [54, 0, 0, 504, 9]), (.iload 8, 2, []), (.ireturn, 1, [0])])]
/-- QueueBroker.isChannel(I)Z -/
def bk_40 : List (Nat × List Ins) := [(0, [(.iload_n 0, 1, []), (.iconst 0, 1, []), (.iconst 3, 1, []), (.invokestatic 50, 3, [8, 3, 1, 215]), (.ireturn, 1, [4])])]
/-- QueueBroker.isKey(I)Z -/
def bk_41 : List (Nat × List Ins) := [(0, [(.iconst 0, 1, []), (.istore_n 1, 1, [])]),
  (2, [(.iload_n 1, 1, []), (.bipush 8, 2, []), (.if_icmp .ge 21, 3, [26]), (.iload_n 0, 1, []), (.iload_n 1, 1, []), (.invokestatic 233, 3, [15, 2, 1, 240]), (.bipush 14, 2, []), (.if_icmp .lt 5, 3, [20]), (.iconst 0, 1, []), (.ireturn, 1, [4])]),
  (20, [(.iinc 1 1, 3, []), (.goto (-21), 3, [2])]),
  (26, [(.iload_n 0, 1, []), (.invokestatic 79, 3, [13, 1, 1, 234]), (.ireturn, 1, [4])])]
/-- QueueBroker$Message.<init>(IIIZ)V -/
def bk_42 : List (Nat × List Ins) := [(0, [(.aload_n 0, 1, []), (.invokespecial 1, 3, [394]), (.aload_n 0, 1, []), (.iload_n 1, 1, []), (.putfield 7, 3, [7, 0, 395, 0]), (.aload_n 0, 1, []), (.iload_n 2, 1, []), (.putfield 13, 3, [7, 1, 397, 0]), (.aload_n 0, 1, []), (.iload_n 3, 1, []), (.putfield 16, 3, [7, 2, 399, 0]), (.aload_n 0, 1, []), (.iload 4, 2, []), (.putfield 19, 3, [7, 3, 401, 4]), (.return_, 1, [])])]
/-- QueueBroker$Deed.<init>(ILQueueBroker$Message;I)V -/
def bk_43 : List (Nat × List Ins) := [(0, [(.aload_n 0, 1, []), (.invokespecial 1, 3, [418]), (.aload_n 0, 1, []), (.iload_n 1, 1, []), (.putfield 7, 3, [5, 0, 419, 0]), (.aload_n 0, 1, []), (.aload_n 2, 1, []), (.putfield 13, 3, [5, 1, 421, 2]), (.aload_n 0, 1, []), (.iload_n 3, 1, []), (.putfield 17, 3, [5, 2, 423, 0]), (.return_, 1, [])])]
/-- QueueBroker.countChosen(II)I -/
def bk_44 : List (Nat × List Ins) := [(0, [(.iconst 0, 1, []), (.istore_n 3, 1, []), (.iconst 0, 1, []), (.istore 4, 2, [])]),
  (5, [(.iload 4, 2, []), (.bipush 6, 2, []), (.if_icmp .ge 23, 3, [32]), (.aload_n 0, 1, []), (.iload_n 1, 1, []), (.iload 4, 2, []), (.iload_n 2, 1, []), (.invokevirtual 255, 3, [45, 3, 1, 436, 9]), (.ifCond .eq 6, 3, [26]), (.iinc 3 1, 3, [])]),
  (26, [(.iinc 4 1, 3, []), (.goto (-24), 3, [5])]),
  (32, [(.iload_n 3, 1, []), (.ireturn, 1, [0])])]
/-- QueueBroker.isChosen(III)Z -/
def bk_45 : List (Nat × List Ins) := [(0, [(.aload_n 0, 1, []), (.getfield 11, 3, [9, 0, 186, 1]), (.iload_n 1, 1, []), (.aaload, 1, []), (.getfield 58, 3, [6, 1, 117, 0]), (.istore 4, 2, []), (.iconst 0, 1, []), (.istore 5, 2, [])]),
  (14, [(.iload 5, 2, []), (.aload_n 0, 1, []), (.getfield 30, 3, [9, 3, 189, 1]), (.invokevirtual 86, 3, [17, 0, 1, 247, 10]), (.if_icmp .ge 76, 3, [99]), (.aload_n 0, 1, []), (.getfield 30, 3, [9, 3, 189, 1]), (.iload 5, 2, []), (.invokevirtual 211, 3, [18, 1, 2, 251, 10]), (.checkcast 90, 3, [1, 265, 1008]), (.astore 6, 2, []), (.aload 6, 2, []), (.getfield 242, 3, [1, 0, 272, 0]), (.iload_n 1, 1, []), (.if_icmp .ne 47, 3, [93]), (.aload 6, 2, []), (.getfield 245, 3, [1, 1, 274, 0]), (.iload_n 2, 1, []), (.if_icmp .ne 38, 3, [93]), (.iload 4, 2, []), (.iconst 1, 1, []), (.if_icmp .eq 30, 3, [91]), (.aload 6, 2, []), (.getfield 248, 3, [1, 2, 276, 0]), (.iload_n 3, 1, []), (.if_icmp .eq 21, 3, [91]), (.iload 4, 2, []), (.iconst 2, 1, []), (.if_icmp .ne 17, 3, [93]), (.aload 6, 2, []), (.getfield 248, 3, [1, 2, 276, 0]), (.iload_n 3, 1, []), (.invokestatic 251, 3, [46, 2, 1, 440]), (.ifCond .eq 5, 3, [93])]),
  (91, [(.iconst 1, 1, []), (.ireturn, 1, [4])]),
  (93, [(.iinc 5 1, 3, []), (.goto (-82), 3, [14])]),
  (99, [(.iconst 0, 1, []), (.ireturn, 1, [4])])]
/-- QueueBroker.isMatch(II)Z -/
def bk_46 : List (Nat × List Ins) := [(0, [(.iload_n 0, 1, []), (.invokestatic 236, 3, [14, 1, 1, 237]), (.istore_n 2, 1, []), (.iload_n 1, 1, []), (.invokestatic 236, 3, [14, 1, 1, 237]), (.istore_n 3, 1, []), (.iconst 1, 1, []), (.istore 4, 2, []), (.iconst 0, 1, []), (.istore 5, 2, [])]),
  (16, [(.iload 5, 2, []), (.iload_n 2, 1, []), (.if_icmp .ge 23, 3, [42]), (.iload 4, 2, []), (.iload_n 0, 1, []), (.iload 5, 2, []), (.invokestatic 233, 3, [15, 2, 1, 240]), (.iload_n 1, 1, []), (.invokestatic 239, 3, [47, 3, 1, 443]), (.istore 4, 2, []), (.iinc 5 1, 3, []), (.goto (-23), 3, [16])]),
  (42, [(.iload 4, 2, []), (.iload_n 3, 1, []), (.ishr, 1, []), (.iconst 1, 1, []), (.iand, 1, []), (.ifCond .eq 7, 3, [55]), (.iconst 1, 1, []), (.goto 4, 3, [56])]),
  (55, [(.iconst 0, 1, [])]),
  (56, [(.ireturn, 1, [4])])]
/-- QueueBroker.reachFurther(III)I -/
def bk_47 : List (Nat × List Ins) := [(0, [(.iload_n 1, 1, []), (.bipush 14, 2, []), (.if_icmp .ne 7, 3, [10]), (.iload_n 0, 1, []), (.iconst 1, 1, []), (.ishl, 1, []), (.ireturn, 1, [0])]),
  (10, [(.iload_n 1, 1, []), (.bipush 15, 2, []), (.if_icmp .ne 11, 3, [24]), (.iload_n 0, 1, []), (.iload_n 0, 1, []), (.ineg, 1, []), (.iand, 1, []), (.istore_n 3, 1, []), (.iload_n 3, 1, []), (.ineg, 1, []), (.ireturn, 1, [0])]),
  (24, [(.iconst 0, 1, []), (.istore_n 3, 1, []), (.iconst 0, 1, []), (.istore 4, 2, [])]),
  (29, [(.iload 4, 2, []), (.bipush 8, 2, []), (.if_icmp .ge 37, 3, [70]), (.iload_n 0, 1, []), (.iload 4, 2, []), (.ishr, 1, []), (.iconst 1, 1, []), (.iand, 1, []), (.ifCond .eq 22, 3, [64]), (.iload_n 2, 1, []), (.iload 4, 2, []), (.invokestatic 233, 3, [15, 2, 1, 240]), (.iload_n 1, 1, []), (.if_icmp .ne 12, 3, [64]), (.iload_n 3, 1, []), (.iconst 1, 1, []), (.iload 4, 2, []), (.iconst 1, 1, []), (.iadd, 1, []), (.ishl, 1, []), (.ior, 1, []), (.istore_n 3, 1, [])]),
  (64, [(.iinc 4 1, 3, []), (.goto (-38), 3, [29])]),
  (70, [(.iload_n 3, 1, []), (.ireturn, 1, [0])])]
/-- QueueBroker.route(ILQueueBroker$Message;)V -/
def bk_48 : List (Nat × List Ins) := [(0, [(.iconst 0, 1, []), (.istore_n 3, 1, [])]),
  (2, [(.iload_n 3, 1, []), (.bipush 6, 2, []), (.if_icmp .ge 28, 3, [33]), (.aload_n 0, 1, []), (.iload_n 1, 1, []), (.iload_n 3, 1, []), (.aload_n 2, 1, []), (.getfield 258, 3, [7, 1, 398, 0]), (.invokevirtual 255, 3, [45, 3, 1, 436, 9]), (.ifCond .eq 9, 3, [27]), (.aload_n 0, 1, []), (.iload_n 3, 1, []), (.aload_n 2, 1, []), (.invokevirtual 261, 3, [49, 2, 0, 450, 9])]),
  (27, [(.iinc 3 1, 3, []), (.goto (-28), 3, [2])]),
  (33, [(.return_, 1, [])])]
/-- QueueBroker.put(ILQueueBroker$Message;)V -/
def bk_49 : List (Nat × List Ins) := [(0, [(.aload_n 0, 1, []), (.getfield 17, 3, [9, 1, 187, 1]), (.iload_n 1, 1, []), (.aaload, 1, []), (.astore_n 3, 1, []), (.aload_n 0, 1, []), (.dup, 1, []), (.getfield 37, 3, [9, 5, 191, 0]), (.iconst 1, 1, []), (.iadd, 1, []), (.putfield 37, 3, [9, 5, 191, 0]), (.aload_n 3, 1, []), (.new 165, 3, [4, 454]), (.dup, 1, []), (.aload_n 2, 1, []), (.iload_n 1, 1, []), (.aload_n 0, 1, []), (.getfield 37, 3, [9, 5, 191, 0]), (.invokespecial 264, 3, [50, 3, 0, 456, 4]), (.invokevirtual 267, 3, [51, 1, 0, 489, 8]), (.aload_n 3, 1, []), (.getfield 154, 3, [8, 4, 143, 1]), (.invokevirtual 86, 3, [17, 0, 1, 247, 10]), (.aload_n 3, 1, []), (.getfield 65, 3, [8, 1, 137, 0]), (.isub, 1, []), (.istore 4, 2, [])]),
  (48, [(.iload 4, 2, []), (.ifCond .le 28, 3, [78]), (.aload_n 0, 1, []), (.getfield 34, 3, [9, 4, 190, 1]), (.aload_n 3, 1, []), (.getfield 154, 3, [8, 4, 143, 1]), (.iconst 0, 1, []), (.invokevirtual 99, 3, [32, 1, 2, 346, 10]), (.checkcast 165, 3, [4, 454, 1009]), (.invokevirtual 95, 3, [23, 1, 1, 284, 10]), (.pop, 1, []), (.iinc 4 (-1), 3, []), (.goto (-27), 3, [48])]),
  (78, [(.return_, 1, [])])]
/-- QueueBroker$Copy.<init>(LQueueBroker$Message;II)V -/
def bk_50 : List (Nat × List Ins) := [(0, [(.aload_n 0, 1, []), (.invokespecial 3, 3, [459]), (.aload_n 0, 1, []), (.iconst 0, 1, []), (.putfield 9, 3, [4, 3, 468, 4]), (.aload_n 0, 1, []), (.iconst 0, 1, []), (.putfield 15, 3, [4, 4, 470, 0]), (.aload_n 0, 1, []), (.iconst (-1), 1, []), (.putfield 19, 3, [4, 5, 473, 0]), (.aload_n 0, 1, []), (.aload_n 1, 1, []), (.putfield 22, 3, [4, 0, 460, 1]), (.aload_n 0, 1, []), (.iload_n 2, 1, []), (.putfield 26, 3, [4, 1, 463, 0]), (.aload_n 0, 1, []), (.iload_n 3, 1, []), (.putfield 29, 3, [4, 2, 466, 0]), (.return_, 1, [])])]
/-- QueueBroker$Queue.insert(LQueueBroker$Copy;)V -/
def bk_51 : List (Nat × List Ins) := [(0, [(.aload_n 0, 1, []), (.getfield 28, 3, [8, 4, 142, 1]), (.invokevirtual 35, 3, [17, 0, 1, 493, 10]), (.istore_n 2, 1, [])]),
  (8, [(.iload_n 2, 1, []), (.ifCond .le 32, 3, [41]), (.aload_n 0, 1, []), (.getfield 28, 3, [8, 4, 142, 1]), (.iload_n 2, 1, []), (.iconst 1, 1, []), (.isub, 1, []), (.invokevirtual 39, 3, [18, 1, 2, 494, 10]), (.checkcast 43, 3, [4, 495, 1009]), (.getfield 45, 3, [4, 2, 467, 0]), (.aload_n 1, 1, []), (.getfield 45, 3, [4, 2, 467, 0]), (.if_icmp .le 9, 3, [41]), (.iinc 2 (-1), 3, []), (.goto (-30), 3, [8])]),
  (41, [(.aload_n 0, 1, []), (.getfield 28, 3, [8, 4, 142, 1]), (.iload_n 2, 1, []), (.aload_n 1, 1, []), (.invokevirtual 48, 3, [52, 2, 0, 496, 10]), (.return_, 1, [])])]
/-- java/util/ArrayList.add(ILjava/lang/Object;)V -/
def bk_52 : List (Nat × List Ins) := [(0, [(.aload_n 0, 1, []), (.iload_n 1, 1, []), (.invokevirtual 135, 3, [53, 1, 0, 500, 10]), (.aload_n 0, 1, []), (.dup, 1, []), (.getfield 63, 3, [10, 0, 100, 0]), (.iconst 1, 1, []), (.iadd, 1, []), (.putfield 63, 3, [10, 0, 100, 0]), (.aload_n 0, 1, []), (.getfield 48, 3, [10, 2, 98, 0]), (.dup, 1, []), (.istore_n 3, 1, []), (.aload_n 0, 1, []), (.getfield 9, 3, [10, 1, 97, 1]), (.dup, 1, []), (.astore 4, 2, []), (.arraylength, 1, []), (.if_icmp .ne 9, 3, [38]), (.aload_n 0, 1, []), (.invokevirtual 129, 3, [25, 0, 2, 292, 10]), (.astore 4, 2, [])]),
  (38, [(.aload 4, 2, []), (.iload_n 1, 1, []), (.aload 4, 2, []), (.iload_n 1, 1, []), (.iconst 1, 1, []), (.iadd, 1, []), (.iload_n 3, 1, []), (.iload_n 1, 1, []), (.isub, 1, []), (.invokestatic 112, 3, [2, 354]), (.aload 4, 2, []), (.iload_n 1, 1, []), (.aload_n 2, 1, []), (.aastore, 1, []), (.aload_n 0, 1, []), (.iload_n 3, 1, []), (.iconst 1, 1, []), (.iadd, 1, []), (.putfield 48, 3, [10, 2, 98, 0]), (.return_, 1, [])])]
/-- java/util/ArrayList.rangeCheckForAdd(I)V -/
def bk_53 : List (Nat × List Ins) := [(0, [(.iload_n 1, 1, []), (.aload_n 0, 1, []), (.getfield 48, 3, [10, 2, 98, 0]), (.if_icmp .gt 7, 3, [12]), (.iload_n 1, 1, []), (.ifCond .ge 16, 3, [25])]),
  (12, [(.new 187, 3, [])]),
  (25, [(.return_, 1, [])])]
/-- QueueBroker.routeLetters()V -/
def bk_54 : List (Nat × List Ins) := [(0, [(.iconst 0, 1, []), (.istore_n 1, 1, []), (.iconst 0, 1, []), (.istore_n 2, 1, [])]),
  (4, [(.iload_n 2, 1, []), (.aload_n 0, 1, []), (.getfield 34, 3, [9, 4, 190, 1]), (.invokevirtual 86, 3, [17, 0, 1, 247, 10]), (.if_icmp .ge 80, 3, [92]), (.iload_n 2, 1, []), (.ldc_w 270, 3, [1000000, 508]), (.if_icmp .ge 73, 3, [92]), (.aload_n 0, 1, []), (.getfield 34, 3, [9, 4, 190, 1]), (.iload_n 2, 1, []), (.invokevirtual 211, 3, [18, 1, 2, 251, 10]), (.checkcast 165, 3, [4, 454, 1009]), (.astore_n 3, 1, []), (.iload_n 1, 1, []), (.iconst 3, 1, []), (.if_icmp .ge 40, 3, [76]), (.aload_n 0, 1, []), (.aload_n 3, 1, []), (.invokevirtual 271, 3, [55, 1, 1, 509, 9]), (.ifCond .eq 32, 3, [76]), (.iinc 1 1, 3, []), (.aload_n 0, 1, []), (.aload_n 0, 1, []), (.getfield 17, 3, [9, 1, 187, 1]), (.aload_n 3, 1, []), (.getfield 275, 3, [4, 1, 465, 0]), (.aaload, 1, []), (.getfield 68, 3, [8, 2, 139, 0]), (.aload_n 3, 1, []), (.getfield 276, 3, [4, 0, 462, 1]), (.invokevirtual 280, 3, [56, 0, 2, 513, 7]), (.invokevirtual 133, 3, [48, 2, 0, 446, 9]), (.goto 13, 3, [86])]),
  (76, [(.aload_n 0, 1, []), (.dup, 1, []), (.getfield 44, 3, [9, 7, 193, 0]), (.iconst 1, 1, []), (.iadd, 1, []), (.putfield 44, 3, [9, 7, 193, 0])]),
  (86, [(.iinc 2 1, 3, []), (.goto (-85), 3, [4])]),
  (92, [(.aload_n 0, 1, []), (.dup, 1, []), (.getfield 41, 3, [9, 6, 192, 0]), (.iload_n 1, 1, []), (.iadd, 1, []), (.putfield 41, 3, [9, 6, 192, 0]), (.aload_n 0, 1, []), (.getfield 34, 3, [9, 4, 190, 1]), (.invokevirtual 284, 3, [38, 0, 0, 519, 10]), (.return_, 1, [])])]
/-- QueueBroker.canGoOn(LQueueBroker$Copy;)Z -/
def bk_55 : List (Nat × List Ins) := [(0, [(.aload_n 0, 1, []), (.aload_n 0, 1, []), (.getfield 17, 3, [9, 1, 187, 1]), (.aload_n 1, 1, []), (.getfield 275, 3, [4, 1, 465, 0]), (.aaload, 1, []), (.getfield 68, 3, [8, 2, 139, 0]), (.invokevirtual 72, 3, [11, 1, 1, 226, 9]), (.ifCond .eq 18, 3, [34]), (.aload_n 1, 1, []), (.getfield 276, 3, [4, 0, 462, 1]), (.getfield 287, 3, [7, 2, 400, 0]), (.iconst 3, 1, []), (.if_icmp .ge 7, 3, [34]), (.iconst 1, 1, []), (.goto 4, 3, [35])]),
  (34, [(.iconst 0, 1, [])]),
  (35, [(.ireturn, 1, [4])])]
/-- QueueBroker$Message.withOneHopMore()LQueueBroker$Message; -/
def bk_56 : List (Nat × List Ins) := [(0, [(.new 8, 3, [7, 517]), (.dup, 1, []), (.aload_n 0, 1, []), (.getfield 7, 3, [7, 0, 395, 0]), (.aload_n 0, 1, []), (.getfield 13, 3, [7, 1, 397, 0]), (.aload_n 0, 1, []), (.getfield 16, 3, [7, 2, 399, 0]), (.iconst 1, 1, []), (.iadd, 1, []), (.aload_n 0, 1, []), (.getfield 19, 3, [7, 3, 401, 0]), (.invokespecial 23, 3, [42, 4, 0, 518, 7]), (.areturn, 1, [])])]
/-- QueueBroker.consume(IIZ)I -/
def bk_57 : List (Nat × List Ins) := [(0, [(.iload_n 1, 1, []), (.invokestatic 107, 3, [40, 1, 1, 383]), (.ifCond .eq 11, 3, [15]), (.aload_n 0, 1, []), (.iload_n 2, 1, []), (.invokevirtual 76, 3, [12, 1, 1, 230, 9]), (.ifCond .ne 5, 3, [17])]),
  (15, [(.iconst (-1), 1, []), (.ireturn, 1, [0])]),
  (17, [(.aload_n 0, 1, []), (.getfield 17, 3, [9, 1, 187, 1]), (.iload_n 2, 1, []), (.aaload, 1, []), (.iload_n 1, 1, []), (.invokevirtual 140, 3, [58, 1, 1, 524, 8]), (.iconst (-1), 1, []), (.if_icmp .eq 6, 3, [34]), (.bipush (-3), 2, []), (.ireturn, 1, [0])]),
  (34, [(.aload_n 0, 1, []), (.getfield 17, 3, [9, 1, 187, 1]), (.iload_n 2, 1, []), (.aaload, 1, []), (.getfield 143, 3, [8, 5, 145, 1]), (.new 146, 3, [3, 529]), (.dup, 1, []), (.iload_n 1, 1, []), (.iload_n 3, 1, []), (.invokespecial 148, 3, [59, 2, 0, 531, 3]), (.invokevirtual 95, 3, [23, 1, 1, 284, 10]), (.pop, 1, []), (.iconst 0, 1, []), (.ireturn, 1, [0])])]
/-- QueueBroker$Queue.findConsumer(I)I -/
def bk_58 : List (Nat × List Ins) := [(0, [(.iconst 0, 1, []), (.istore_n 2, 1, [])]),
  (2, [(.iload_n 2, 1, []), (.aload_n 0, 1, []), (.getfield 32, 3, [8, 5, 144, 1]), (.invokevirtual 35, 3, [17, 0, 1, 493, 10]), (.if_icmp .ge 29, 3, [39]), (.aload_n 0, 1, []), (.getfield 32, 3, [8, 5, 144, 1]), (.iload_n 2, 1, []), (.invokevirtual 39, 3, [18, 1, 2, 494, 10]), (.checkcast 52, 3, [3, 528, 1010]), (.getfield 54, 3, [3, 0, 536, 0]), (.iload_n 1, 1, []), (.if_icmp .ne 5, 3, [33]), (.iload_n 2, 1, []), (.ireturn, 1, [0])]),
  (33, [(.iinc 2 1, 3, []), (.goto (-34), 3, [2])]),
  (39, [(.iconst (-1), 1, []), (.ireturn, 1, [0])])]
/-- QueueBroker$Consumer.<init>(IZ)V -/
def bk_59 : List (Nat × List Ins) := [(0, [(.aload_n 0, 1, []), (.invokespecial 1, 3, [534]), (.aload_n 0, 1, []), (.iload_n 1, 1, []), (.putfield 7, 3, [3, 0, 535, 0]), (.aload_n 0, 1, []), (.iload_n 2, 1, []), (.putfield 13, 3, [3, 1, 538, 4]), (.return_, 1, [])])]
/-- QueueBroker.cancel(II)I -/
def bk_60 : List (Nat × List Ins) := [(0, [(.iload_n 1, 1, []), (.invokestatic 107, 3, [40, 1, 1, 383]), (.ifCond .eq 11, 3, [15]), (.aload_n 0, 1, []), (.iload_n 2, 1, []), (.invokevirtual 76, 3, [12, 1, 1, 230, 9]), (.ifCond .ne 5, 3, [17])]),
  (15, [(.iconst (-1), 1, []), (.ireturn, 1, [0])]),
  (17, [(.aload_n 0, 1, []), (.getfield 17, 3, [9, 1, 187, 1]), (.iload_n 2, 1, []), (.aaload, 1, []), (.iload_n 1, 1, []), (.invokevirtual 151, 3, [61, 1, 1, 549, 8]), (.ifCond .eq 7, 3, [34]), (.iconst 0, 1, []), (.goto 5, 3, [36])]),
  (34, [(.bipush (-3), 2, [])]),
  (36, [(.ireturn, 1, [0])])]
/-- QueueBroker$Queue.removeConsumer(I)Z -/
def bk_61 : List (Nat × List Ins) := [(0, [(.aload_n 0, 1, []), (.iload_n 1, 1, []), (.invokevirtual 57, 3, [58, 1, 1, 553, 8]), (.istore_n 2, 1, []), (.iload_n 2, 1, []), (.iconst (-1), 1, []), (.if_icmp .ne 5, 3, [13]), (.iconst 0, 1, []), (.ireturn, 1, [4])]),
  (13, [(.aload_n 0, 1, []), (.getfield 32, 3, [8, 5, 144, 1]), (.iload_n 2, 1, []), (.invokevirtual 61, 3, [32, 1, 2, 554, 10]), (.pop, 1, []), (.iconst 1, 1, []), (.ireturn, 1, [4])])]
/-- QueueBroker.deliver(I)I -/
def bk_62 : List (Nat × List Ins) := [(0, [(.aload_n 0, 1, []), (.iload_n 1, 1, []), (.invokevirtual 76, 3, [12, 1, 1, 230, 9]), (.ifCond .ne 5, 3, [10]), (.iconst (-1), 1, []), (.ireturn, 1, [0])]),
  (10, [(.aload_n 0, 1, []), (.getfield 17, 3, [9, 1, 187, 1]), (.iload_n 1, 1, []), (.aaload, 1, []), (.astore_n 2, 1, []), (.aload_n 2, 1, []), (.getfield 154, 3, [8, 4, 143, 1]), (.invokevirtual 157, 3, [63, 0, 1, 559, 10]), (.ifCond .eq 6, 3, [30]), (.bipush (-5), 2, []), (.ireturn, 1, [0])]),
  (30, [(.aload_n 0, 1, []), (.aload_n 2, 1, []), (.invokevirtual 161, 3, [64, 1, 1, 563, 9]), (.istore_n 3, 1, []), (.iload_n 3, 1, []), (.iconst (-1), 1, []), (.if_icmp .ne 6, 3, [44]), (.bipush (-6), 2, []), (.ireturn, 1, [0])]),
  (44, [(.aload_n 2, 1, []), (.getfield 143, 3, [8, 5, 145, 1]), (.iload_n 3, 1, []), (.invokevirtual 99, 3, [32, 1, 2, 346, 10]), (.checkcast 146, 3, [3, 529, 1010]), (.astore 4, 2, []), (.aload_n 2, 1, []), (.getfield 143, 3, [8, 5, 145, 1]), (.aload 4, 2, []), (.invokevirtual 95, 3, [23, 1, 1, 284, 10]), (.pop, 1, []), (.aload_n 2, 1, []), (.getfield 154, 3, [8, 4, 143, 1]), (.iconst 0, 1, []), (.invokevirtual 99, 3, [32, 1, 2, 346, 10]), (.checkcast 165, 3, [4, 454, 1009]), (.astore 5, 2, []), (.aload 4, 2, []), (.getfield 167, 3, [3, 1, 539, 0]), (.ifCond .ne 18, 3, [103]), (.aload_n 0, 1, []), (.getfield 23, 3, [9, 2, 188, 1]), (.aload 4, 2, []), (.getfield 170, 3, [3, 0, 537, 0]), (.aaload, 1, []), (.aload 5, 2, []), (.invokevirtual 173, 3, [65, 1, 0, 567, 2])]),
  (103, [(.aload 4, 2, []), (.getfield 170, 3, [3, 0, 537, 0]), (.ireturn, 1, [0])])]
/-- java/util/ArrayList.isEmpty()Z -/
def bk_63 : List (Nat × List Ins) := [(0, [(.aload_n 0, 1, []), (.getfield 48, 3, [10, 2, 98, 0]), (.ifCond .ne 7, 3, [11]), (.iconst 1, 1, []), (.goto 4, 3, [12])]),
  (11, [(.iconst 0, 1, [])]),
  (12, [(.ireturn, 1, [4])])]
/-- QueueBroker.findAbleConsumer(LQueueBroker$Queue;)I -/
def bk_64 : List (Nat × List Ins) := [(0, [(.iconst 0, 1, []), (.istore_n 2, 1, [])]),
  (2, [(.iload_n 2, 1, []), (.aload_n 1, 1, []), (.getfield 143, 3, [8, 5, 145, 1]), (.invokevirtual 86, 3, [17, 0, 1, 247, 10]), (.if_icmp .ge 57, 3, [67]), (.aload_n 1, 1, []), (.getfield 143, 3, [8, 5, 145, 1]), (.iload_n 2, 1, []), (.invokevirtual 211, 3, [18, 1, 2, 251, 10]), (.checkcast 146, 3, [3, 529, 1010]), (.astore_n 3, 1, []), (.aload_n 0, 1, []), (.getfield 23, 3, [9, 2, 188, 1]), (.aload_n 3, 1, []), (.getfield 170, 3, [3, 0, 537, 0]), (.aaload, 1, []), (.astore 4, 2, []), (.aload_n 3, 1, []), (.getfield 167, 3, [3, 1, 539, 0]), (.ifCond .ne 19, 3, [59]), (.aload 4, 2, []), (.getfield 218, 3, [2, 3, 172, 1]), (.invokevirtual 86, 3, [17, 0, 1, 247, 10]), (.aload 4, 2, []), (.getfield 189, 3, [2, 0, 167, 0]), (.if_icmp .ge 5, 3, [61])]),
  (59, [(.iload_n 2, 1, []), (.ireturn, 1, [0])]),
  (61, [(.iinc 2 1, 3, []), (.goto (-62), 3, [2])]),
  (67, [(.iconst (-1), 1, []), (.ireturn, 1, [0])])]
/-- QueueBroker$Channel.hold(LQueueBroker$Copy;)V -/
def bk_65 : List (Nat × List Ins) := [(0, [(.aload_n 0, 1, []), (.dup, 1, []), (.getfield 19, 3, [2, 2, 170, 0]), (.iconst 1, 1, []), (.iadd, 1, []), (.putfield 19, 3, [2, 2, 170, 0]), (.aload_n 1, 1, []), (.aload_n 0, 1, []), (.getfield 19, 3, [2, 2, 170, 0]), (.putfield 32, 3, [4, 4, 471, 0]), (.aload_n 1, 1, []), (.iconst (-1), 1, []), (.putfield 37, 3, [4, 5, 474, 0]), (.aload_n 0, 1, []), (.getfield 25, 3, [2, 3, 171, 1]), (.aload_n 1, 1, []), (.invokevirtual 40, 3, [23, 1, 1, 571, 10]), (.pop, 1, []), (.return_, 1, [])])]
/-- QueueBroker.settle(IIZI)I -/
def bk_66 : List (Nat × List Ins) := [(0, [(.iload_n 1, 1, []), (.invokestatic 107, 3, [40, 1, 1, 383]), (.ifCond .eq 25, 3, [29]), (.iload_n 2, 1, []), (.ifCond .lt 21, 3, [29]), (.iload_n 2, 1, []), (.ifCond .ne 7, 3, [19]), (.iload_n 3, 1, []), (.ifCond .eq 13, 3, [29])]),
  (19, [(.iload 4, 2, []), (.iconst 0, 1, []), (.iconst 2, 1, []), (.invokestatic 50, 3, [8, 3, 1, 215]), (.ifCond .ne 5, 3, [31])]),
  (29, [(.iconst (-1), 1, []), (.ireturn, 1, [0])]),
  (31, [(.aload_n 0, 1, []), (.getfield 23, 3, [9, 2, 188, 1]), (.iload_n 1, 1, []), (.aaload, 1, []), (.astore 5, 2, []), (.aload 5, 2, []), (.iload_n 2, 1, []), (.iload_n 3, 1, []), (.invokevirtual 177, 3, [67, 2, 1, 576, 2]), (.istore 6, 2, []), (.iload 6, 2, []), (.ifCond .ne 5, 3, [55]), (.iconst (-1), 1, []), (.ireturn, 1, [0])]),
  (55, [(.aload 5, 2, []), (.getfield 113, 3, [2, 1, 169, 0]), (.ifCond .eq 18, 3, [78]), (.aload 5, 2, []), (.getfield 116, 3, [2, 4, 174, 1]), (.invokevirtual 86, 3, [17, 0, 1, 247, 10]), (.iconst 4, 1, []), (.if_icmp .lt 6, 3, [78]), (.bipush (-2), 2, []), (.ireturn, 1, [0])]),
  (78, [(.aload 5, 2, []), (.getfield 116, 3, [2, 4, 174, 1]), (.invokevirtual 86, 3, [17, 0, 1, 247, 10]), (.istore 7, 2, []), (.aload 5, 2, []), (.iload_n 2, 1, []), (.iload_n 3, 1, []), (.iload 7, 2, []), (.invokevirtual 181, 3, [69, 3, 0, 584, 2]), (.aload 5, 2, []), (.getfield 113, 3, [2, 1, 169, 0]), (.ifCond .eq 26, 3, [128]), (.aload 5, 2, []), (.getfield 116, 3, [2, 4, 174, 1]), (.new 124, 3, [5, 413]), (.dup, 1, []), (.iconst (-1), 1, []), (.aconst_null, 1, []), (.iload 4, 2, []), (.invokespecial 126, 3, [43, 3, 0, 415, 5]), (.invokevirtual 95, 3, [23, 1, 1, 284, 10]), (.pop, 1, []), (.bipush 100, 2, []), (.ireturn, 1, [0])]),
  (128, [(.aload_n 0, 1, []), (.aload 5, 2, []), (.iload 7, 2, []), (.iload 4, 2, []), (.invokevirtual 185, 3, [70, 3, 0, 588, 9]), (.aload_n 0, 1, []), (.invokevirtual 137, 3, [54, 0, 0, 504, 9]), (.iload 6, 2, []), (.ireturn, 1, [0])])]
/-- QueueBroker$Channel.countSettled(IZ)I -/
def bk_67 : List (Nat × List Ins) := [(0, [(.iconst 0, 1, []), (.istore_n 3, 1, []), (.iconst 0, 1, []), (.istore 4, 2, [])]),
  (5, [(.iload 4, 2, []), (.aload_n 0, 1, []), (.getfield 25, 3, [2, 3, 171, 1]), (.invokevirtual 44, 3, [17, 0, 1, 367, 10]), (.if_icmp .ge 33, 3, [47]), (.aload_n 0, 1, []), (.aload_n 0, 1, []), (.getfield 25, 3, [2, 3, 171, 1]), (.iload 4, 2, []), (.invokevirtual 48, 3, [18, 1, 2, 368, 10]), (.checkcast 33, 3, [4, 369, 1009]), (.iload_n 1, 1, []), (.iload_n 2, 1, []), (.invokevirtual 52, 3, [68, 3, 1, 580, 2]), (.ifCond .eq 6, 3, [41]), (.iinc 3 1, 3, [])]),
  (41, [(.iinc 4 1, 3, []), (.goto (-39), 3, [5])]),
  (47, [(.iload_n 3, 1, []), (.ireturn, 1, [0])])]
/-- QueueBroker$Channel.isSettled(LQueueBroker$Copy;IZ)Z -/
def bk_68 : List (Nat × List Ins) := [(0, [(.aload_n 1, 1, []), (.getfield 37, 3, [4, 5, 474, 0]), (.iconst (-1), 1, []), (.if_icmp .eq 5, 3, [10]), (.iconst 0, 1, []), (.ireturn, 1, [4])]),
  (10, [(.iload_n 3, 1, []), (.ifCond .eq 23, 3, [34]), (.iload_n 2, 1, []), (.ifCond .eq 11, 3, [26]), (.aload_n 1, 1, []), (.getfield 32, 3, [4, 4, 471, 0]), (.iload_n 2, 1, []), (.if_icmp .gt 7, 3, [30])]),
  (26, [(.iconst 1, 1, []), (.goto 20, 3, [47])]),
  (30, [(.iconst 0, 1, []), (.goto 16, 3, [47])]),
  (34, [(.aload_n 1, 1, []), (.getfield 32, 3, [4, 4, 471, 0]), (.iload_n 2, 1, []), (.if_icmp .ne 7, 3, [46]), (.iconst 1, 1, []), (.goto 4, 3, [47])]),
  (46, [(.iconst 0, 1, [])]),
  (47, [(.ireturn, 1, [4])])]
/-- QueueBroker$Channel.markSettled(IZI)V -/
def bk_69 : List (Nat × List Ins) := [(0, [(.iconst 0, 1, []), (.istore 4, 2, [])]),
  (3, [(.iload 4, 2, []), (.aload_n 0, 1, []), (.getfield 25, 3, [2, 3, 171, 1]), (.invokevirtual 44, 3, [17, 0, 1, 367, 10]), (.if_icmp .ge 46, 3, [58]), (.aload_n 0, 1, []), (.aload_n 0, 1, []), (.getfield 25, 3, [2, 3, 171, 1]), (.iload 4, 2, []), (.invokevirtual 48, 3, [18, 1, 2, 368, 10]), (.checkcast 33, 3, [4, 369, 1009]), (.iload_n 1, 1, []), (.iload_n 2, 1, []), (.invokevirtual 52, 3, [68, 3, 1, 580, 2]), (.ifCond .eq 19, 3, [52]), (.aload_n 0, 1, []), (.getfield 25, 3, [2, 3, 171, 1]), (.iload 4, 2, []), (.invokevirtual 48, 3, [18, 1, 2, 368, 10]), (.checkcast 33, 3, [4, 369, 1009]), (.iload_n 3, 1, []), (.putfield 37, 3, [4, 5, 474, 0])]),
  (52, [(.iinc 4 1, 3, []), (.goto (-52), 3, [3])]),
  (58, [(.return_, 1, [])])]
/-- QueueBroker.settleMarked(LQueueBroker$Channel;II)V -/
def bk_70 : List (Nat × List Ins) := [(0, [(.aload_n 1, 1, []), (.getfield 218, 3, [2, 3, 172, 1]), (.invokevirtual 86, 3, [17, 0, 1, 247, 10]), (.istore 4, 2, []), (.iconst 0, 1, []), (.istore 5, 2, []), (.iconst 0, 1, []), (.istore 6, 2, [])]),
  (15, [(.iload 6, 2, []), (.iload 4, 2, []), (.if_icmp .ge 51, 3, [70]), (.aload_n 1, 1, []), (.getfield 218, 3, [2, 3, 172, 1]), (.iload 5, 2, []), (.invokevirtual 211, 3, [18, 1, 2, 251, 10]), (.checkcast 165, 3, [4, 454, 1009]), (.getfield 290, 3, [4, 5, 475, 0]), (.iload_n 2, 1, []), (.if_icmp .ne 23, 3, [61]), (.aload_n 0, 1, []), (.aload_n 1, 1, []), (.getfield 218, 3, [2, 3, 172, 1]), (.iload 5, 2, []), (.invokevirtual 99, 3, [32, 1, 2, 346, 10]), (.checkcast 165, 3, [4, 454, 1009]), (.iload_n 3, 1, []), (.invokevirtual 293, 3, [71, 2, 0, 592, 9]), (.goto 6, 3, [64])]),
  (61, [(.iinc 5 1, 3, [])]),
  (64, [(.iinc 6 1, 3, []), (.goto (-52), 3, [15])]),
  (70, [(.return_, 1, [])])]
/-- QueueBroker.settleCopy(LQueueBroker$Copy;I)V -/
def bk_71 : List (Nat × List Ins) := [(0, [(.iload_n 2, 1, []), (.iconst 1, 1, []), (.if_icmp .ne 11, 3, [13]), (.aload_n 0, 1, []), (.aload_n 1, 1, []), (.invokevirtual 297, 3, [72, 1, 0, 596, 9]), (.goto 17, 3, [27])]),
  (13, [(.iload_n 2, 1, []), (.iconst 2, 1, []), (.if_icmp .ne 12, 3, [27]), (.aload_n 0, 1, []), (.getfield 34, 3, [9, 4, 190, 1]), (.aload_n 1, 1, []), (.invokevirtual 95, 3, [23, 1, 1, 284, 10]), (.pop, 1, [])]),
  (27, [(.return_, 1, [])])]
/-- QueueBroker.giveBack(LQueueBroker$Copy;)V -/
def bk_72 : List (Nat × List Ins) := [(0, [(.aload_n 1, 1, []), (.iconst 1, 1, []), (.putfield 300, 3, [4, 3, 469, 4]), (.aload_n 0, 1, []), (.getfield 17, 3, [9, 1, 187, 1]), (.aload_n 1, 1, []), (.getfield 275, 3, [4, 1, 465, 0]), (.aaload, 1, []), (.aload_n 1, 1, []), (.invokevirtual 267, 3, [51, 1, 0, 489, 8]), (.return_, 1, [])])]
/-- QueueBroker.prefetch(II)I -/
def bk_73 : List (Nat × List Ins) := [(0, [(.iload_n 1, 1, []), (.invokestatic 107, 3, [40, 1, 1, 383]), (.ifCond .eq 13, 3, [17]), (.iload_n 2, 1, []), (.iconst 1, 1, []), (.bipush 12, 2, []), (.invokestatic 50, 3, [8, 3, 1, 215]), (.ifCond .ne 5, 3, [19])]),
  (17, [(.iconst (-1), 1, []), (.ireturn, 1, [0])]),
  (19, [(.aload_n 0, 1, []), (.getfield 23, 3, [9, 2, 188, 1]), (.iload_n 1, 1, []), (.aaload, 1, []), (.iload_n 2, 1, []), (.putfield 189, 3, [2, 0, 167, 0]), (.iconst 0, 1, []), (.ireturn, 1, [0])])]
/-- QueueBroker.begin(I)I -/
def bk_74 : List (Nat × List Ins) := [(0, [(.iload_n 1, 1, []), (.invokestatic 107, 3, [40, 1, 1, 383]), (.ifCond .ne 5, 3, [9]), (.iconst (-1), 1, []), (.ireturn, 1, [0])]),
  (9, [(.aload_n 0, 1, []), (.getfield 23, 3, [9, 2, 188, 1]), (.iload_n 1, 1, []), (.aaload, 1, []), (.getfield 113, 3, [2, 1, 169, 0]), (.ifCond .eq 6, 3, [24]), (.bipush (-3), 2, []), (.ireturn, 1, [0])]),
  (24, [(.aload_n 0, 1, []), (.getfield 23, 3, [9, 2, 188, 1]), (.iload_n 1, 1, []), (.aaload, 1, []), (.iconst 1, 1, []), (.putfield 113, 3, [2, 1, 169, 4]), (.iconst 0, 1, []), (.ireturn, 1, [0])])]
/-- QueueBroker.commit(I)I -/
def bk_75 : List (Nat × List Ins) := [(0, [(.iload_n 1, 1, []), (.invokestatic 107, 3, [40, 1, 1, 383]), (.ifCond .ne 5, 3, [9]), (.iconst (-1), 1, []), (.ireturn, 1, [0])]),
  (9, [(.aload_n 0, 1, []), (.getfield 23, 3, [9, 2, 188, 1]), (.iload_n 1, 1, []), (.aaload, 1, []), (.astore_n 2, 1, []), (.aload_n 2, 1, []), (.getfield 113, 3, [2, 1, 169, 0]), (.ifCond .ne 6, 3, [26]), (.bipush (-3), 2, []), (.ireturn, 1, [0])]),
  (26, [(.aload_n 2, 1, []), (.getfield 116, 3, [2, 4, 174, 1]), (.invokevirtual 86, 3, [17, 0, 1, 247, 10]), (.istore_n 3, 1, []), (.iconst 0, 1, []), (.istore 4, 2, [])]),
  (37, [(.iload 4, 2, []), (.iload_n 3, 1, []), (.if_icmp .ge 16, 3, [56]), (.aload_n 0, 1, []), (.aload_n 2, 1, []), (.iload 4, 2, []), (.invokevirtual 192, 3, [76, 2, 0, 612, 9]), (.iinc 4 1, 3, []), (.goto (-16), 3, [37])]),
  (56, [(.aload_n 2, 1, []), (.invokevirtual 196, 3, [77, 0, 0, 616, 2]), (.aload_n 0, 1, []), (.invokevirtual 137, 3, [54, 0, 0, 504, 9]), (.iload_n 3, 1, []), (.ireturn, 1, [0])])]
/-- QueueBroker.doDeed(LQueueBroker$Channel;I)V -/
def bk_76 : List (Nat × List Ins) := [(0, [(.aload_n 1, 1, []), (.getfield 116, 3, [2, 4, 174, 1]), (.iload_n 2, 1, []), (.invokevirtual 211, 3, [18, 1, 2, 251, 10]), (.checkcast 124, 3, [5, 413, 1011]), (.astore_n 3, 1, []), (.aload_n 3, 1, []), (.getfield 303, 3, [5, 1, 422, 2]), (.ifnonnull 16, 3, [32]), (.aload_n 0, 1, []), (.aload_n 1, 1, []), (.iload_n 2, 1, []), (.aload_n 3, 1, []), (.getfield 304, 3, [5, 2, 424, 0]), (.invokevirtual 185, 3, [70, 3, 0, 588, 9]), (.goto 26, 3, [55])]),
  (32, [(.aload_n 0, 1, []), (.aload_n 3, 1, []), (.getfield 307, 3, [5, 0, 420, 0]), (.invokevirtual 72, 3, [11, 1, 1, 226, 9]), (.ifCond .eq 15, 3, [55]), (.aload_n 0, 1, []), (.aload_n 3, 1, []), (.getfield 307, 3, [5, 0, 420, 0]), (.aload_n 3, 1, []), (.getfield 303, 3, [5, 1, 422, 2]), (.invokevirtual 133, 3, [48, 2, 0, 446, 9])]),
  (55, [(.return_, 1, [])])]
/-- QueueBroker$Channel.forgetDeeds()V -/
def bk_77 : List (Nat × List Ins) := [(0, [(.aload_n 0, 1, []), (.getfield 29, 3, [2, 4, 173, 1]), (.invokevirtual 62, 3, [38, 0, 0, 620, 10]), (.iconst 0, 1, []), (.istore_n 1, 1, [])]),
  (9, [(.iload_n 1, 1, []), (.aload_n 0, 1, []), (.getfield 25, 3, [2, 3, 171, 1]), (.invokevirtual 44, 3, [17, 0, 1, 367, 10]), (.if_icmp .ge 24, 3, [41]), (.aload_n 0, 1, []), (.getfield 25, 3, [2, 3, 171, 1]), (.iload_n 1, 1, []), (.invokevirtual 48, 3, [18, 1, 2, 368, 10]), (.checkcast 33, 3, [4, 369, 1009]), (.iconst (-1), 1, []), (.putfield 37, 3, [4, 5, 474, 0]), (.iinc 1 1, 3, []), (.goto (-29), 3, [9])]),
  (41, [(.return_, 1, [])])]
/-- QueueBroker.rollback(I)I -/
def bk_78 : List (Nat × List Ins) := [(0, [(.iload_n 1, 1, []), (.invokestatic 107, 3, [40, 1, 1, 383]), (.ifCond .ne 5, 3, [9]), (.iconst (-1), 1, []), (.ireturn, 1, [0])]),
  (9, [(.aload_n 0, 1, []), (.getfield 23, 3, [9, 2, 188, 1]), (.iload_n 1, 1, []), (.aaload, 1, []), (.getfield 113, 3, [2, 1, 169, 0]), (.ifCond .ne 6, 3, [24]), (.bipush (-3), 2, []), (.ireturn, 1, [0])]),
  (24, [(.aload_n 0, 1, []), (.getfield 23, 3, [9, 2, 188, 1]), (.iload_n 1, 1, []), (.aaload, 1, []), (.getfield 116, 3, [2, 4, 174, 1]), (.invokevirtual 86, 3, [17, 0, 1, 247, 10]), (.istore_n 2, 1, []), (.aload_n 0, 1, []), (.getfield 23, 3, [9, 2, 188, 1]), (.iload_n 1, 1, []), (.aaload, 1, []), (.invokevirtual 196, 3, [77, 0, 0, 616, 2]), (.iload_n 2, 1, []), (.ireturn, 1, [0])])]
/-- QueueBroker.close(I)I -/
def bk_79 : List (Nat × List Ins) := [(0, [(.iload_n 1, 1, []), (.invokestatic 107, 3, [40, 1, 1, 383]), (.ifCond .ne 5, 3, [9]), (.iconst (-1), 1, []), (.ireturn, 1, [0])]),
  (9, [(.aload_n 0, 1, []), (.iload_n 1, 1, []), (.invokevirtual 199, 3, [80, 1, 0, 629, 9]), (.iconst 0, 1, []), (.ireturn, 1, [0])])]
/-- QueueBroker.closeChannel(I)V -/
def bk_80 : List (Nat × List Ins) := [(0, [(.aload_n 0, 1, []), (.getfield 23, 3, [9, 2, 188, 1]), (.iload_n 1, 1, []), (.aaload, 1, []), (.astore_n 2, 1, []), (.iconst 0, 1, []), (.istore_n 3, 1, [])]),
  (9, [(.iload_n 3, 1, []), (.aload_n 2, 1, []), (.getfield 218, 3, [2, 3, 172, 1]), (.invokevirtual 86, 3, [17, 0, 1, 247, 10]), (.if_icmp .ge 24, 3, [41]), (.aload_n 0, 1, []), (.aload_n 2, 1, []), (.getfield 218, 3, [2, 3, 172, 1]), (.iload_n 3, 1, []), (.invokevirtual 211, 3, [18, 1, 2, 251, 10]), (.checkcast 165, 3, [4, 454, 1009]), (.invokevirtual 297, 3, [72, 1, 0, 596, 9]), (.iinc 3 1, 3, []), (.goto (-29), 3, [9])]),
  (41, [(.iconst 0, 1, []), (.istore_n 3, 1, [])]),
  (43, [(.iload_n 3, 1, []), (.bipush 6, 2, []), (.if_icmp .ge 20, 3, [66]), (.aload_n 0, 1, []), (.getfield 17, 3, [9, 1, 187, 1]), (.iload_n 3, 1, []), (.aaload, 1, []), (.iload_n 1, 1, []), (.invokevirtual 151, 3, [61, 1, 1, 549, 8]), (.pop, 1, []), (.iinc 3 1, 3, []), (.goto (-20), 3, [43])]),
  (66, [(.aload_n 2, 1, []), (.invokevirtual 308, 3, [81, 0, 0, 633, 2]), (.return_, 1, [])])]
/-- QueueBroker$Channel.reset()V -/
def bk_81 : List (Nat × List Ins) := [(0, [(.aload_n 0, 1, []), (.bipush 12, 2, []), (.putfield 9, 3, [2, 0, 166, 0]), (.aload_n 0, 1, []), (.iconst 0, 1, []), (.putfield 15, 3, [2, 1, 168, 4]), (.aload_n 0, 1, []), (.iconst 0, 1, []), (.putfield 19, 3, [2, 2, 170, 0]), (.aload_n 0, 1, []), (.getfield 25, 3, [2, 3, 171, 1]), (.invokevirtual 62, 3, [38, 0, 0, 620, 10]), (.aload_n 0, 1, []), (.getfield 29, 3, [2, 4, 173, 1]), (.invokevirtual 62, 3, [38, 0, 0, 620, 10]), (.return_, 1, [])])]
/-- QueueBroker.crash()I -/
def bk_82 : List (Nat × List Ins) := [(0, [(.iconst 0, 1, []), (.istore_n 1, 1, [])]),
  (2, [(.iload_n 1, 1, []), (.iconst 4, 1, []), (.if_icmp .ge 14, 3, [18]), (.aload_n 0, 1, []), (.iload_n 1, 1, []), (.invokevirtual 199, 3, [80, 1, 0, 629, 9]), (.iinc 1 1, 3, []), (.goto (-13), 3, [2])]),
  (18, [(.iconst 0, 1, []), (.istore_n 1, 1, [])]),
  (20, [(.iload_n 1, 1, []), (.iconst 5, 1, []), (.if_icmp .ge 26, 3, [48]), (.aload_n 0, 1, []), (.getfield 11, 3, [9, 0, 186, 1]), (.iload_n 1, 1, []), (.aaload, 1, []), (.getfield 61, 3, [6, 2, 119, 0]), (.ifCond .ne 8, 3, [42]), (.aload_n 0, 1, []), (.iload_n 1, 1, []), (.invokevirtual 203, 3, [83, 1, 0, 641, 9])]),
  (42, [(.iinc 1 1, 3, []), (.goto (-25), 3, [20])]),
  (48, [(.iconst 0, 1, []), (.istore_n 1, 1, []), (.iconst 0, 1, []), (.istore_n 2, 1, [])]),
  (52, [(.iload_n 2, 1, []), (.bipush 6, 2, []), (.if_icmp .ge 51, 3, [106]), (.aload_n 0, 1, []), (.getfield 17, 3, [9, 1, 187, 1]), (.iload_n 2, 1, []), (.aaload, 1, []), (.getfield 71, 3, [8, 3, 141, 0]), (.ifCond .ne 9, 3, [76]), (.aload_n 0, 1, []), (.iload_n 2, 1, []), (.invokevirtual 103, 3, [35, 1, 1, 359, 9]), (.pop, 1, [])]),
  (76, [(.aload_n 0, 1, []), (.getfield 17, 3, [9, 1, 187, 1]), (.iload_n 2, 1, []), (.aaload, 1, []), (.invokevirtual 206, 3, [84, 0, 0, 645, 8]), (.iload_n 1, 1, []), (.aload_n 0, 1, []), (.getfield 17, 3, [9, 1, 187, 1]), (.iload_n 2, 1, []), (.aaload, 1, []), (.getfield 154, 3, [8, 4, 143, 1]), (.invokevirtual 86, 3, [17, 0, 1, 247, 10]), (.iadd, 1, []), (.istore_n 1, 1, []), (.iinc 2 1, 3, []), (.goto (-51), 3, [52])]),
  (106, [(.iload_n 1, 1, []), (.ireturn, 1, [0])])]
/-- QueueBroker.forgetExchange(I)V -/
def bk_83 : List (Nat × List Ins) := [(0, [(.aload_n 0, 1, []), (.getfield 11, 3, [9, 0, 186, 1]), (.iload_n 1, 1, []), (.aaload, 1, []), (.iconst 0, 1, []), (.putfield 54, 3, [6, 0, 115, 4]), (.aload_n 0, 1, []), (.getfield 30, 3, [9, 3, 189, 1]), (.invokevirtual 86, 3, [17, 0, 1, 247, 10]), (.iconst 1, 1, []), (.isub, 1, []), (.istore_n 2, 1, [])]),
  (20, [(.iload_n 2, 1, []), (.ifCond .lt 36, 3, [57]), (.aload_n 0, 1, []), (.getfield 30, 3, [9, 3, 189, 1]), (.iload_n 2, 1, []), (.invokevirtual 211, 3, [18, 1, 2, 251, 10]), (.checkcast 90, 3, [1, 265, 1008]), (.getfield 242, 3, [1, 0, 272, 0]), (.iload_n 1, 1, []), (.if_icmp .ne 12, 3, [51]), (.aload_n 0, 1, []), (.getfield 30, 3, [9, 3, 189, 1]), (.iload_n 2, 1, []), (.invokevirtual 99, 3, [32, 1, 2, 346, 10]), (.pop, 1, [])]),
  (51, [(.iinc 2 (-1), 3, []), (.goto (-34), 3, [20])]),
  (57, [(.return_, 1, [])])]
/-- QueueBroker$Queue.keepPersistent()V -/
def bk_84 : List (Nat × List Ins) := [(0, [(.aload_n 0, 1, []), (.getfield 28, 3, [8, 4, 142, 1]), (.invokevirtual 35, 3, [17, 0, 1, 493, 10]), (.iconst 1, 1, []), (.isub, 1, []), (.istore_n 1, 1, [])]),
  (10, [(.iload_n 1, 1, []), (.ifCond .lt 38, 3, [49]), (.aload_n 0, 1, []), (.getfield 28, 3, [8, 4, 142, 1]), (.iload_n 1, 1, []), (.invokevirtual 39, 3, [18, 1, 2, 494, 10]), (.checkcast 43, 3, [4, 495, 1009]), (.getfield 64, 3, [4, 0, 461, 1]), (.getfield 68, 3, [7, 3, 402, 0]), (.ifCond .ne 12, 3, [43]), (.aload_n 0, 1, []), (.getfield 28, 3, [8, 4, 142, 1]), (.iload_n 1, 1, []), (.invokevirtual 61, 3, [32, 1, 2, 554, 10]), (.pop, 1, [])]),
  (43, [(.iinc 1 (-1), 3, []), (.goto (-36), 3, [10])]),
  (49, [(.return_, 1, [])])]
/-- QueueBroker.ready(III)J -/
def bk_85 : List (Nat × List Ins) := [(0, [(.iload_n 1, 1, []), (.iconst 0, 1, []), (.iconst 5, 1, []), (.invokestatic 50, 3, [8, 3, 1, 215]), (.ifCond .eq 25, 3, [31]), (.iload_n 2, 1, []), (.iconst 0, 1, []), (.aload_n 0, 1, []), (.getfield 17, 3, [9, 1, 187, 1]), (.iload_n 1, 1, []), (.aaload, 1, []), (.getfield 154, 3, [8, 4, 143, 1]), (.invokevirtual 86, 3, [17, 0, 1, 247, 10]), (.iconst 1, 1, []), (.isub, 1, []), (.invokestatic 50, 3, [8, 3, 1, 215]), (.ifCond .ne 7, 3, [35])]),
  (31, [(.ldc2_w 209, 3, [18446743073709551616, 653]), (.lreturn, 1, [])]),
  (35, [(.aload_n 0, 1, []), (.getfield 17, 3, [9, 1, 187, 1]), (.iload_n 1, 1, []), (.aaload, 1, []), (.getfield 154, 3, [8, 4, 143, 1]), (.iload_n 2, 1, []), (.invokevirtual 211, 3, [18, 1, 2, 251, 10]), (.checkcast 165, 3, [4, 454, 1009]), (.iload_n 3, 1, []), (.invokestatic 214, 3, [86, 2, 3, 654]), (.lreturn, 1, [])])]
/-- QueueBroker.readyField(LQueueBroker$Copy;I)J -/
def bk_86 : List (Nat × List Ins) := [(0, [(.iload_n 1, 1, []), (.tableswitch 91 0 4 #[35, 44, 53, 62, 75], 35, [92, 36, 45, 54, 63, 76])]),
  (36, [(.aload_n 0, 1, []), (.getfield 276, 3, [4, 0, 462, 1]), (.getfield 315, 3, [7, 0, 396, 0]), (.i2l, 1, []), (.lreturn, 1, [])]),
  (45, [(.aload_n 0, 1, []), (.getfield 276, 3, [4, 0, 462, 1]), (.getfield 258, 3, [7, 1, 398, 0]), (.i2l, 1, []), (.lreturn, 1, [])]),
  (54, [(.aload_n 0, 1, []), (.getfield 276, 3, [4, 0, 462, 1]), (.getfield 287, 3, [7, 2, 400, 0]), (.i2l, 1, []), (.lreturn, 1, [])]),
  (63, [(.aload_n 0, 1, []), (.getfield 300, 3, [4, 3, 469, 0]), (.ifCond .eq 7, 3, [74]), (.lconst 1, 1, []), (.goto 4, 3, [75])]),
  (74, [(.lconst 0, 1, [])]),
  (75, [(.lreturn, 1, [])]),
  (76, [(.aload_n 0, 1, []), (.getfield 276, 3, [4, 0, 462, 1]), (.getfield 318, 3, [7, 3, 403, 0]), (.ifCond .eq 7, 3, [90]), (.lconst 1, 1, []), (.goto 4, 3, [91])]),
  (90, [(.lconst 0, 1, [])]),
  (91, [(.lreturn, 1, [])]),
  (92, [(.ldc2_w 209, 3, [18446743073709551616, 653]), (.lreturn, 1, [])])]
/-- QueueBroker.held(III)J -/
def bk_87 : List (Nat × List Ins) := [(0, [(.iload_n 1, 1, []), (.invokestatic 107, 3, [40, 1, 1, 383]), (.ifCond .eq 25, 3, [29]), (.iload_n 2, 1, []), (.iconst 0, 1, []), (.aload_n 0, 1, []), (.getfield 23, 3, [9, 2, 188, 1]), (.iload_n 1, 1, []), (.aaload, 1, []), (.getfield 218, 3, [2, 3, 172, 1]), (.invokevirtual 86, 3, [17, 0, 1, 247, 10]), (.iconst 1, 1, []), (.isub, 1, []), (.invokestatic 50, 3, [8, 3, 1, 215]), (.ifCond .ne 7, 3, [33])]),
  (29, [(.ldc2_w 209, 3, [18446743073709551616, 653]), (.lreturn, 1, [])]),
  (33, [(.aload_n 0, 1, []), (.getfield 23, 3, [9, 2, 188, 1]), (.iload_n 1, 1, []), (.aaload, 1, []), (.getfield 218, 3, [2, 3, 172, 1]), (.iload_n 2, 1, []), (.invokevirtual 211, 3, [18, 1, 2, 251, 10]), (.checkcast 165, 3, [4, 454, 1009]), (.iload_n 3, 1, []), (.invokestatic 221, 3, [88, 2, 3, 661]), (.lreturn, 1, [])])]
/-- QueueBroker.heldField(LQueueBroker$Copy;I)J -/
def bk_88 : List (Nat × List Ins) := [(0, [(.iload_n 1, 1, []), (.tableswitch 53 5 7 #[27, 33, 39], 27, [54, 28, 34, 40])]),
  (28, [(.aload_n 0, 1, []), (.getfield 321, 3, [4, 4, 472, 0]), (.i2l, 1, []), (.lreturn, 1, [])]),
  (34, [(.aload_n 0, 1, []), (.getfield 275, 3, [4, 1, 465, 0]), (.i2l, 1, []), (.lreturn, 1, [])]),
  (40, [(.aload_n 0, 1, []), (.getfield 290, 3, [4, 5, 475, 0]), (.iconst (-1), 1, []), (.if_icmp .ne 7, 3, [52]), (.lconst 0, 1, []), (.goto 4, 3, [53])]),
  (52, [(.lconst 1, 1, [])]),
  (53, [(.lreturn, 1, [])]),
  (54, [(.aload_n 0, 1, []), (.iload_n 1, 1, []), (.invokestatic 214, 3, [86, 2, 3, 654]), (.lreturn, 1, [])])]
/-- QueueBroker.count(II)I -/
def bk_89 : List (Nat × List Ins) := [(0, [(.iload_n 1, 1, []), (.tableswitch 200 0 7 #[47, 75, 103, 129, 148, 169, 174, 179], 47, [201, 48, 76, 104, 130, 149, 170, 175, 180])]),
  (48, [(.iload_n 2, 1, []), (.iconst 0, 1, []), (.iconst 5, 1, []), (.invokestatic 50, 3, [8, 3, 1, 215]), (.ifCond .eq 18, 3, [72]), (.aload_n 0, 1, []), (.getfield 17, 3, [9, 1, 187, 1]), (.iload_n 2, 1, []), (.aaload, 1, []), (.getfield 154, 3, [8, 4, 143, 1]), (.invokevirtual 86, 3, [17, 0, 1, 247, 10]), (.goto 6, 3, [75])]),
  (72, [(.sipush (-1000), 3, [])]),
  (75, [(.ireturn, 1, [0])]),
  (76, [(.iload_n 2, 1, []), (.iconst 0, 1, []), (.iconst 5, 1, []), (.invokestatic 50, 3, [8, 3, 1, 215]), (.ifCond .eq 18, 3, [100]), (.aload_n 0, 1, []), (.getfield 17, 3, [9, 1, 187, 1]), (.iload_n 2, 1, []), (.aaload, 1, []), (.getfield 143, 3, [8, 5, 145, 1]), (.invokevirtual 86, 3, [17, 0, 1, 247, 10]), (.goto 6, 3, [103])]),
  (100, [(.sipush (-1000), 3, [])]),
  (103, [(.ireturn, 1, [0])]),
  (104, [(.iload_n 2, 1, []), (.invokestatic 107, 3, [40, 1, 1, 383]), (.ifCond .eq 18, 3, [126]), (.aload_n 0, 1, []), (.getfield 23, 3, [9, 2, 188, 1]), (.iload_n 2, 1, []), (.aaload, 1, []), (.getfield 218, 3, [2, 3, 172, 1]), (.invokevirtual 86, 3, [17, 0, 1, 247, 10]), (.goto 6, 3, [129])]),
  (126, [(.sipush (-1000), 3, [])]),
  (129, [(.ireturn, 1, [0])]),
  (130, [(.iload_n 2, 1, []), (.invokestatic 107, 3, [40, 1, 1, 383]), (.ifCond .eq 11, 3, [145]), (.aload_n 0, 1, []), (.iload_n 2, 1, []), (.invokevirtual 224, 3, [90, 1, 1, 668, 9]), (.goto 6, 3, [148])]),
  (145, [(.sipush (-1000), 3, [])]),
  (148, [(.ireturn, 1, [0])]),
  (149, [(.iload_n 2, 1, []), (.iconst 0, 1, []), (.iconst 4, 1, []), (.invokestatic 50, 3, [8, 3, 1, 215]), (.ifCond .eq 11, 3, [166]), (.aload_n 0, 1, []), (.iload_n 2, 1, []), (.invokevirtual 227, 3, [91, 1, 1, 672, 9]), (.goto 6, 3, [169])]),
  (166, [(.sipush (-1000), 3, [])]),
  (169, [(.ireturn, 1, [0])]),
  (170, [(.aload_n 0, 1, []), (.getfield 41, 3, [9, 6, 192, 0]), (.ireturn, 1, [0])]),
  (175, [(.aload_n 0, 1, []), (.getfield 44, 3, [9, 7, 193, 0]), (.ireturn, 1, [0])]),
  (180, [(.iload_n 2, 1, []), (.iconst 0, 1, []), (.iconst 3, 1, []), (.invokestatic 50, 3, [8, 3, 1, 215]), (.ifCond .eq 11, 3, [197]), (.aload_n 0, 1, []), (.iload_n 2, 1, []), (.invokevirtual 230, 3, [92, 1, 1, 676, 9]), (.goto 6, 3, [200])]),
  (197, [(.sipush (-1000), 3, [])]),
  (200, [(.ireturn, 1, [0])]),
  (201, [(.sipush (-1000), 3, []), (.ireturn, 1, [0])])]
/-- QueueBroker.countDeeds(I)I -/
def bk_90 : List (Nat × List Ins) := [(0, [(.aload_n 0, 1, []), (.getfield 23, 3, [9, 2, 188, 1]), (.iload_n 1, 1, []), (.aaload, 1, []), (.getfield 113, 3, [2, 1, 169, 0]), (.ifCond .eq 18, 3, [27]), (.aload_n 0, 1, []), (.getfield 23, 3, [9, 2, 188, 1]), (.iload_n 1, 1, []), (.aaload, 1, []), (.getfield 116, 3, [2, 4, 174, 1]), (.invokevirtual 86, 3, [17, 0, 1, 247, 10]), (.goto 4, 3, [28])]),
  (27, [(.iconst (-1), 1, [])]),
  (28, [(.ireturn, 1, [0])])]
/-- QueueBroker.countBindings(I)I -/
def bk_91 : List (Nat × List Ins) := [(0, [(.iconst 0, 1, []), (.istore_n 2, 1, []), (.iconst 0, 1, []), (.istore_n 3, 1, [])]),
  (4, [(.iload_n 3, 1, []), (.aload_n 0, 1, []), (.getfield 30, 3, [9, 3, 189, 1]), (.invokevirtual 86, 3, [17, 0, 1, 247, 10]), (.if_icmp .ge 30, 3, [42]), (.aload_n 0, 1, []), (.getfield 30, 3, [9, 3, 189, 1]), (.iload_n 3, 1, []), (.invokevirtual 211, 3, [18, 1, 2, 251, 10]), (.checkcast 90, 3, [1, 265, 1008]), (.getfield 242, 3, [1, 0, 272, 0]), (.iload_n 1, 1, []), (.if_icmp .ne 6, 3, [36]), (.iinc 2 1, 3, [])]),
  (36, [(.iinc 3 1, 3, []), (.goto (-35), 3, [4])]),
  (42, [(.iload_n 2, 1, []), (.ireturn, 1, [0])])]
/-- QueueBroker.channelInFirstRow(I)I -/
def bk_92 : List (Nat × List Ins) := [(0, [(.iload_n 1, 1, []), (.aload_n 0, 1, []), (.getfield 17, 3, [9, 1, 187, 1]), (.iconst 0, 1, []), (.aaload, 1, []), (.getfield 143, 3, [8, 5, 145, 1]), (.invokevirtual 86, 3, [17, 0, 1, 247, 10]), (.if_icmp .ge 25, 3, [38]), (.aload_n 0, 1, []), (.getfield 17, 3, [9, 1, 187, 1]), (.iconst 0, 1, []), (.aaload, 1, []), (.getfield 143, 3, [8, 5, 145, 1]), (.iload_n 1, 1, []), (.invokevirtual 211, 3, [18, 1, 2, 251, 10]), (.checkcast 146, 3, [3, 529, 1010]), (.getfield 170, 3, [3, 0, 537, 0]), (.goto 4, 3, [39])]),
  (38, [(.iconst (-1), 1, [])]),
  (39, [(.ireturn, 1, [0])])]
/-- QueueBrokerModel.<init>()V -/
def bk_93 : List (Nat × List Ins) := [(0, [(.aload_n 0, 1, []), (.invokespecial 1, 3, [685]), (.aload_n 0, 1, []), (.iconst 5, 1, []), (.newarray .int, 2, [104]), (.putfield 7, 3, [11, 0, 686, 1]), (.aload_n 0, 1, []), (.bipush 6, 2, []), (.newarray .int, 2, [104]), (.putfield 13, 3, [11, 1, 687, 1]), (.aload_n 0, 1, []), (.bipush 6, 2, []), (.newarray .int, 2, [104]), (.putfield 16, 3, [11, 2, 688, 1]), (.aload_n 0, 1, []), (.iconst 5, 1, []), (.newarray .boolean, 2, [105]), (.putfield 19, 3, [11, 3, 689, 1]), (.aload_n 0, 1, []), (.bipush 6, 2, []), (.newarray .boolean, 2, [105]), (.putfield 23, 3, [11, 4, 690, 1]), (.aload_n 0, 1, []), (.bipush 24, 2, []), (.newarray .int, 2, [104]), (.putfield 26, 3, [11, 5, 691, 1]), (.aload_n 0, 1, []), (.bipush 24, 2, []), (.newarray .int, 2, [104]), (.putfield 29, 3, [11, 6, 692, 1]), (.aload_n 0, 1, []), (.bipush 24, 2, []), (.newarray .int, 2, [104]), (.putfield 32, 3, [11, 7, 693, 1]), (.aload_n 0, 1, []), (.bipush 25, 2, []), (.newarray .int, 2, [104]), (.putfield 35, 3, [11, 9, 695, 1]), (.aload_n 0, 1, []), (.bipush 25, 2, []), (.newarray .int, 2, [104]), (.putfield 38, 3, [11, 10, 696, 1]), (.aload_n 0, 1, []), (.bipush 25, 2, []), (.newarray .boolean, 2, [105]), (.putfield 41, 3, [11, 11, 697, 1]), (.aload_n 0, 1, []), (.iconst 4, 1, []), (.newarray .int, 2, [104]), (.putfield 44, 3, [11, 13, 699, 1]), (.aload_n 0, 1, []), (.iconst 4, 1, []), (.newarray .int, 2, [104]), (.putfield 47, 3, [11, 14, 700, 1]), (.aload_n 0, 1, []), (.iconst 4, 1, []), (.newarray .int, 2, [104]), (.putfield 50, 3, [11, 15, 701, 1]), (.aload_n 0, 1, []), (.iconst 4, 1, []), (.newarray .boolean, 2, [105]), (.putfield 53, 3, [11, 16, 702, 1]), (.aload_n 0, 1, []), (.bipush 16, 2, []), (.newarray .int, 2, [104]), (.putfield 56, 3, [11, 17, 703, 1]), (.aload_n 0, 1, []), (.bipush 16, 2, []), (.newarray .int, 2, [104]), (.putfield 59, 3, [11, 18, 704, 1]), (.aload_n 0, 1, []), (.bipush 16, 2, []), (.newarray .int, 2, [104]), (.putfield 62, 3, [11, 19, 705, 1]), (.aload_n 0, 1, []), (.bipush 16, 2, []), (.newarray .int, 2, [104]), (.putfield 65, 3, [11, 20, 706, 1]), (.aload_n 0, 1, []), (.sipush 400, 3, []), (.newarray .int, 2, [104]), (.putfield 68, 3, [11, 21, 707, 1]), (.aload_n 0, 1, []), (.sipush 400, 3, []), (.newarray .int, 2, [104]), (.putfield 71, 3, [11, 22, 708, 1]), (.aload_n 0, 1, []), (.sipush 400, 3, []), (.newarray .int, 2, [104]), (.putfield 74, 3, [11, 23, 709, 1]), (.aload_n 0, 1, []), (.sipush 400, 3, []), (.newarray .int, 2, [104]), (.putfield 77, 3, [11, 24, 710, 1]), (.aload_n 0, 1, []), (.sipush 400, 3, []), (.newarray .int, 2, [104]), (.putfield 80, 3, [11, 25, 711, 1]), (.aload_n 0, 1, []), (.sipush 400, 3, []), (.newarray .int, 2, [104]), (.putfield 83, 3, [11, 26, 712, 1]), (.aload_n 0, 1, []), (.sipush 400, 3, []), (.newarray .int, 2, [104]), (.putfield 86, 3, [11, 27, 713, 1]), (.aload_n 0, 1, []), (.sipush 400, 3, []), (.newarray .int, 2, [104]), (.putfield 89, 3, [11, 28, 714, 1]), (.aload_n 0, 1, []), (.sipush 400, 3, []), (.newarray .boolean, 2, [105]), (.putfield 92, 3, [11, 29, 715, 1]), (.aload_n 0, 1, []), (.sipush 400, 3, []), (.newarray .boolean, 2, [105]), (.putfield 95, 3, [11, 30, 716, 1]), (.aload_n 0, 1, []), (.sipush 450, 3, []), (.newarray .int, 2, [104]), (.putfield 98, 3, [11, 33, 719, 1]), (.aload_n 0, 1, []), (.sipush 450, 3, []), (.newarray .int, 2, [104]), (.putfield 101, 3, [11, 34, 720, 1]), (.aload_n 0, 1, []), (.sipush 450, 3, []), (.newarray .int, 2, [104]), (.putfield 104, 3, [11, 35, 721, 1]), (.aload_n 0, 1, []), (.sipush 450, 3, []), (.newarray .int, 2, [104]), (.putfield 107, 3, [11, 36, 722, 1]), (.aload_n 0, 1, []), (.sipush 450, 3, []), (.newarray .boolean, 2, [105]), (.putfield 110, 3, [11, 37, 723, 1]), (.aload_n 0, 1, []), (.bipush 81, 2, []), (.newarray .boolean, 2, [105]), (.putfield 113, 3, [11, 41, 727, 1]), (.aload_n 0, 1, []), (.bipush 6, 2, []), (.newarray .boolean, 2, [105]), (.putfield 116, 3, [11, 42, 728, 1]), (.iconst 0, 1, []), (.istore_n 1, 1, [])]),
  (303, [(.iload_n 1, 1, []), (.iconst 5, 1, []), (.if_icmp .ge 16, 3, [321]), (.aload_n 0, 1, []), (.getfield 7, 3, [11, 0, 686, 1]), (.iload_n 1, 1, []), (.iconst (-1), 1, []), (.iastore, 1, []), (.iinc 1 1, 3, []), (.goto (-15), 3, [303])]),
  (321, [(.iconst 0, 1, []), (.istore_n 1, 1, [])]),
  (323, [(.iload_n 1, 1, []), (.iconst 4, 1, []), (.if_icmp .ge 17, 3, [342]), (.aload_n 0, 1, []), (.getfield 44, 3, [11, 13, 699, 1]), (.iload_n 1, 1, []), (.bipush 12, 2, []), (.iastore, 1, []), (.iinc 1 1, 3, []), (.goto (-16), 3, [323])]),
  (342, [(.return_, 1, [])])]
/-- QueueBrokerModel.exchange(IIZ)I -/
def bk_94 : List (Nat × List Ins) := [(0, [(.iload_n 1, 1, []), (.iconst 5, 1, []), (.invokestatic 119, 3, [95, 2, 1, 822]), (.ifCond .eq 11, 3, [16]), (.iload_n 2, 1, []), (.iconst 3, 1, []), (.invokestatic 119, 3, [95, 2, 1, 822]), (.ifCond .ne 5, 3, [18])]),
  (16, [(.iconst (-1), 1, []), (.ireturn, 1, [0])]),
  (18, [(.aload_n 0, 1, []), (.getfield 7, 3, [11, 0, 686, 1]), (.iload_n 1, 1, []), (.iaload, 1, []), (.ifCond .lt 30, 3, [54]), (.aload_n 0, 1, []), (.getfield 7, 3, [11, 0, 686, 1]), (.iload_n 1, 1, []), (.iaload, 1, []), (.iload_n 2, 1, []), (.if_icmp .ne 17, 3, [51]), (.aload_n 0, 1, []), (.getfield 19, 3, [11, 3, 689, 1]), (.iload_n 1, 1, []), (.baload, 1, []), (.iload_n 3, 1, []), (.if_icmp .ne 7, 3, [51]), (.iconst 0, 1, []), (.goto 5, 3, [53])]),
  (51, [(.bipush (-3), 2, [])]),
  (53, [(.ireturn, 1, [0])]),
  (54, [(.aload_n 0, 1, []), (.getfield 7, 3, [11, 0, 686, 1]), (.iload_n 1, 1, []), (.iload_n 2, 1, []), (.iastore, 1, []), (.aload_n 0, 1, []), (.getfield 19, 3, [11, 3, 689, 1]), (.iload_n 1, 1, []), (.iload_n 3, 1, []), (.bastore, 1, []), (.iconst 0, 1, []), (.ireturn, 1, [0])])]
/-- QueueBrokerModel.in(II)Z -/
def bk_95 : List (Nat × List Ins) := [(0, [(.iload_n 0, 1, []), (.ifCond .lt 12, 3, [13]), (.iload_n 0, 1, []), (.iload_n 1, 1, []), (.if_icmp .ge 7, 3, [13]), (.iconst 1, 1, []), (.goto 4, 3, [14])]),
  (13, [(.iconst 0, 1, [])]),
  (14, [(.ireturn, 1, [4])])]
/-- QueueBrokerModel.queue(IIIZ)I -/
def bk_96 : List (Nat × List Ins) := [(0, [(.iload_n 1, 1, []), (.bipush 6, 2, []), (.invokestatic 119, 3, [95, 2, 1, 822]), (.ifCond .eq 24, 3, [30]), (.iload_n 2, 1, []), (.iconst 1, 1, []), (.if_icmp .lt 19, 3, [30]), (.iload_n 2, 1, []), (.bipush 12, 2, []), (.if_icmp .gt 13, 3, [30]), (.iload_n 3, 1, []), (.iconst (-1), 1, []), (.if_icmp .lt 8, 3, [30]), (.iload_n 3, 1, []), (.iconst 4, 1, []), (.if_icmp .le 5, 3, [32])]),
  (30, [(.iconst (-1), 1, []), (.ireturn, 1, [0])]),
  (32, [(.aload_n 0, 1, []), (.iload_n 1, 1, []), (.invokevirtual 184, 3, [97, 1, 1, 829, 11]), (.ifCond .eq 41, 3, [78]), (.aload_n 0, 1, []), (.getfield 13, 3, [11, 1, 687, 1]), (.iload_n 1, 1, []), (.iaload, 1, []), (.iload_n 2, 1, []), (.if_icmp .ne 28, 3, [75]), (.aload_n 0, 1, []), (.getfield 16, 3, [11, 2, 688, 1]), (.iload_n 1, 1, []), (.iaload, 1, []), (.iload_n 3, 1, []), (.if_icmp .ne 18, 3, [75]), (.aload_n 0, 1, []), (.getfield 23, 3, [11, 4, 690, 1]), (.iload_n 1, 1, []), (.baload, 1, []), (.iload 4, 2, []), (.if_icmp .ne 7, 3, [75]), (.iconst 0, 1, []), (.goto 5, 3, [77])]),
  (75, [(.bipush (-3), 2, [])]),
  (77, [(.ireturn, 1, [0])]),
  (78, [(.aload_n 0, 1, []), (.getfield 13, 3, [11, 1, 687, 1]), (.iload_n 1, 1, []), (.iload_n 2, 1, []), (.iastore, 1, []), (.aload_n 0, 1, []), (.getfield 16, 3, [11, 2, 688, 1]), (.iload_n 1, 1, []), (.iload_n 3, 1, []), (.iastore, 1, []), (.aload_n 0, 1, []), (.getfield 23, 3, [11, 4, 690, 1]), (.iload_n 1, 1, []), (.iload 4, 2, []), (.bastore, 1, []), (.iconst 0, 1, []), (.ireturn, 1, [0])])]
/-- QueueBrokerModel.isQ(I)Z -/
def bk_97 : List (Nat × List Ins) := [(0, [(.iload_n 1, 1, []), (.bipush 6, 2, []), (.invokestatic 119, 3, [95, 2, 1, 822]), (.ifCond .eq 16, 3, [22]), (.aload_n 0, 1, []), (.getfield 13, 3, [11, 1, 687, 1]), (.iload_n 1, 1, []), (.iaload, 1, []), (.ifCond .le 7, 3, [22]), (.iconst 1, 1, []), (.goto 4, 3, [23])]),
  (22, [(.iconst 0, 1, [])]),
  (23, [(.ireturn, 1, [4])])]
/-- QueueBrokerModel.bind(III)I -/
def bk_98 : List (Nat × List Ins) := [(0, [(.aload_n 0, 1, []), (.iload_n 1, 1, []), (.invokevirtual 171, 3, [99, 1, 1, 837, 11]), (.ifCond .eq 18, 3, [23]), (.aload_n 0, 1, []), (.iload_n 2, 1, []), (.invokevirtual 184, 3, [97, 1, 1, 829, 11]), (.ifCond .eq 10, 3, [23]), (.iload_n 3, 1, []), (.invokestatic 131, 3, [100, 1, 1, 841]), (.ifCond .ne 5, 3, [25])]),
  (23, [(.iconst (-1), 1, []), (.ireturn, 1, [0])]),
  (25, [(.aload_n 0, 1, []), (.iload_n 1, 1, []), (.iload_n 2, 1, []), (.iload_n 3, 1, []), (.invokevirtual 187, 3, [103, 3, 1, 850, 11]), (.ifCond .lt 6, 3, [38]), (.bipush (-3), 2, []), (.ireturn, 1, [0])]),
  (38, [(.aload_n 0, 1, []), (.getfield 135, 3, [11, 8, 694, 0]), (.bipush 24, 2, []), (.if_icmp .ne 6, 3, [50]), (.bipush (-2), 2, []), (.ireturn, 1, [0])]),
  (50, [(.aload_n 0, 1, []), (.getfield 26, 3, [11, 5, 691, 1]), (.aload_n 0, 1, []), (.getfield 135, 3, [11, 8, 694, 0]), (.iload_n 1, 1, []), (.iastore, 1, []), (.aload_n 0, 1, []), (.getfield 29, 3, [11, 6, 692, 1]), (.aload_n 0, 1, []), (.getfield 135, 3, [11, 8, 694, 0]), (.iload_n 2, 1, []), (.iastore, 1, []), (.aload_n 0, 1, []), (.getfield 32, 3, [11, 7, 693, 1]), (.aload_n 0, 1, []), (.getfield 135, 3, [11, 8, 694, 0]), (.iload_n 3, 1, []), (.iastore, 1, []), (.aload_n 0, 1, []), (.dup, 1, []), (.getfield 135, 3, [11, 8, 694, 0]), (.iconst 1, 1, []), (.iadd, 1, []), (.putfield 135, 3, [11, 8, 694, 0]), (.iconst 0, 1, []), (.ireturn, 1, [0])])]
/-- QueueBrokerModel.isE(I)Z -/
def bk_99 : List (Nat × List Ins) := [(0, [(.iload_n 1, 1, []), (.iconst 5, 1, []), (.invokestatic 119, 3, [95, 2, 1, 822]), (.ifCond .eq 16, 3, [21]), (.aload_n 0, 1, []), (.getfield 7, 3, [11, 0, 686, 1]), (.iload_n 1, 1, []), (.iaload, 1, []), (.ifCond .lt 7, 3, [21]), (.iconst 1, 1, []), (.goto 4, 3, [22])]),
  (21, [(.iconst 0, 1, [])]),
  (22, [(.ireturn, 1, [4])])]
/-- QueueBrokerModel.isPattern(I)Z -/
def bk_100 : List (Nat × List Ins) := [(0, [(.iload_n 0, 1, []), (.invokestatic 127, 3, [101, 1, 1, 844]), (.istore_n 1, 1, [])]),
  (5, [(.iload_n 1, 1, []), (.bipush 8, 2, []), (.if_icmp .ge 19, 3, [27]), (.iload_n 0, 1, []), (.iload_n 1, 1, []), (.invokestatic 123, 3, [102, 2, 1, 847]), (.ifCond .ne 5, 3, [21]), (.iconst 0, 1, []), (.ireturn, 1, [4])]),
  (21, [(.iinc 1 1, 3, []), (.goto (-19), 3, [5])]),
  (27, [(.iconst 1, 1, []), (.ireturn, 1, [4])])]
/-- QueueBrokerModel.firstDigit(I)I -/
def bk_101 : List (Nat × List Ins) := [(0, [(.iconst 0, 1, []), (.istore_n 1, 1, [])]),
  (2, [(.iload_n 1, 1, []), (.bipush 8, 2, []), (.if_icmp .ge 19, 3, [24]), (.iload_n 0, 1, []), (.iload_n 1, 1, []), (.invokestatic 123, 3, [102, 2, 1, 847]), (.ifCond .eq 5, 3, [18]), (.iload_n 1, 1, []), (.ireturn, 1, [0])]),
  (18, [(.iinc 1 1, 3, []), (.goto (-19), 3, [2])]),
  (24, [(.bipush 8, 2, []), (.ireturn, 1, [0])])]
/-- QueueBrokerModel.digit(II)I -/
def bk_102 : List (Nat × List Ins) := [(0, [(.iload_n 0, 1, []), (.bipush 28, 2, []), (.iconst 4, 1, []), (.iload_n 1, 1, []), (.imul, 1, []), (.isub, 1, []), (.iushr, 1, []), (.bipush 15, 2, []), (.iand, 1, []), (.ireturn, 1, [0])])]
/-- QueueBrokerModel.binding(III)I -/
def bk_103 : List (Nat × List Ins) := [(0, [(.iconst 0, 1, []), (.istore 4, 2, [])]),
  (3, [(.iload 4, 2, []), (.aload_n 0, 1, []), (.getfield 135, 3, [11, 8, 694, 0]), (.if_icmp .ge 45, 3, [54]), (.aload_n 0, 1, []), (.getfield 26, 3, [11, 5, 691, 1]), (.iload 4, 2, []), (.iaload, 1, []), (.iload_n 1, 1, []), (.if_icmp .ne 28, 3, [48]), (.aload_n 0, 1, []), (.getfield 29, 3, [11, 6, 692, 1]), (.iload 4, 2, []), (.iaload, 1, []), (.iload_n 2, 1, []), (.if_icmp .ne 17, 3, [48]), (.aload_n 0, 1, []), (.getfield 32, 3, [11, 7, 693, 1]), (.iload 4, 2, []), (.iaload, 1, []), (.iload_n 3, 1, []), (.if_icmp .ne 6, 3, [48]), (.iload 4, 2, []), (.ireturn, 1, [0])]),
  (48, [(.iinc 4 1, 3, []), (.goto (-48), 3, [3])]),
  (54, [(.iconst (-1), 1, []), (.ireturn, 1, [0])])]
/-- QueueBrokerModel.unbind(III)I -/
def bk_104 : List (Nat × List Ins) := [(0, [(.aload_n 0, 1, []), (.iload_n 1, 1, []), (.invokevirtual 171, 3, [99, 1, 1, 837, 11]), (.ifCond .eq 18, 3, [23]), (.aload_n 0, 1, []), (.iload_n 2, 1, []), (.invokevirtual 184, 3, [97, 1, 1, 829, 11]), (.ifCond .eq 10, 3, [23]), (.iload_n 3, 1, []), (.invokestatic 131, 3, [100, 1, 1, 841]), (.ifCond .ne 5, 3, [25])]),
  (23, [(.iconst (-1), 1, []), (.ireturn, 1, [0])]),
  (25, [(.aload_n 0, 1, []), (.iload_n 1, 1, []), (.iload_n 2, 1, []), (.iload_n 3, 1, []), (.invokevirtual 187, 3, [103, 3, 1, 850, 11]), (.istore 4, 2, []), (.iload 4, 2, []), (.ifCond .ge 6, 3, [42]), (.bipush (-3), 2, []), (.ireturn, 1, [0])]),
  (42, [(.aload_n 0, 1, []), (.iload 4, 2, []), (.invokevirtual 191, 3, [105, 1, 0, 858, 11]), (.iconst 0, 1, []), (.ireturn, 1, [0])])]
/-- QueueBrokerModel.unbindAt(I)V -/
def bk_105 : List (Nat × List Ins) := [(0, [(.aload_n 0, 1, []), (.dup, 1, []), (.getfield 135, 3, [11, 8, 694, 0]), (.iconst 1, 1, []), (.isub, 1, []), (.putfield 135, 3, [11, 8, 694, 0]), (.aload_n 0, 1, []), (.getfield 26, 3, [11, 5, 691, 1]), (.iload_n 1, 1, []), (.aload_n 0, 1, []), (.getfield 26, 3, [11, 5, 691, 1]), (.aload_n 0, 1, []), (.getfield 135, 3, [11, 8, 694, 0]), (.iaload, 1, []), (.iastore, 1, []), (.aload_n 0, 1, []), (.getfield 29, 3, [11, 6, 692, 1]), (.iload_n 1, 1, []), (.aload_n 0, 1, []), (.getfield 29, 3, [11, 6, 692, 1]), (.aload_n 0, 1, []), (.getfield 135, 3, [11, 8, 694, 0]), (.iaload, 1, []), (.iastore, 1, []), (.aload_n 0, 1, []), (.getfield 32, 3, [11, 7, 693, 1]), (.iload_n 1, 1, []), (.aload_n 0, 1, []), (.getfield 32, 3, [11, 7, 693, 1]), (.aload_n 0, 1, []), (.getfield 135, 3, [11, 8, 694, 0]), (.iaload, 1, []), (.iastore, 1, []), (.return_, 1, [])])]
/-- QueueBrokerModel.drop(I)I -/
def bk_106 : List (Nat × List Ins) := [(0, [(.aload_n 0, 1, []), (.iload_n 1, 1, []), (.invokevirtual 184, 3, [97, 1, 1, 829, 11]), (.ifCond .ne 5, 3, [10]), (.iconst (-1), 1, []), (.ireturn, 1, [0])]),
  (10, [(.iconst 0, 1, []), (.istore_n 2, 1, []), (.aload_n 0, 1, []), (.getfield 142, 3, [11, 31, 717, 0]), (.iconst 1, 1, []), (.isub, 1, []), (.istore_n 3, 1, [])]),
  (19, [(.iload_n 3, 1, []), (.ifCond .lt 30, 3, [50]), (.aload_n 0, 1, []), (.getfield 77, 3, [11, 24, 710, 1]), (.iload_n 3, 1, []), (.iaload, 1, []), (.iload_n 1, 1, []), (.if_icmp .eq 6, 3, [36]), (.goto 11, 3, [44])]),
  (36, [(.aload_n 0, 1, []), (.iload_n 3, 1, []), (.invokevirtual 148, 3, [107, 1, 0, 866, 11]), (.iinc 2 1, 3, [])]),
  (44, [(.iinc 3 (-1), 3, []), (.goto (-28), 3, [19])]),
  (50, [(.aload_n 0, 1, []), (.getfield 135, 3, [11, 8, 694, 0]), (.iconst 1, 1, []), (.isub, 1, []), (.istore_n 3, 1, [])]),
  (57, [(.iload_n 3, 1, []), (.ifCond .lt 24, 3, [82]), (.aload_n 0, 1, []), (.getfield 29, 3, [11, 6, 692, 1]), (.iload_n 3, 1, []), (.iaload, 1, []), (.iload_n 1, 1, []), (.if_icmp .ne 8, 3, [76]), (.aload_n 0, 1, []), (.iload_n 3, 1, []), (.invokevirtual 191, 3, [105, 1, 0, 858, 11])]),
  (76, [(.iinc 3 (-1), 3, []), (.goto (-22), 3, [57])]),
  (82, [(.aload_n 0, 1, []), (.getfield 194, 3, [11, 12, 698, 0]), (.iconst 1, 1, []), (.isub, 1, []), (.istore_n 3, 1, [])]),
  (89, [(.iload_n 3, 1, []), (.ifCond .lt 24, 3, [114]), (.aload_n 0, 1, []), (.getfield 35, 3, [11, 9, 695, 1]), (.iload_n 3, 1, []), (.iaload, 1, []), (.iload_n 1, 1, []), (.if_icmp .ne 8, 3, [108]), (.aload_n 0, 1, []), (.iload_n 3, 1, []), (.invokevirtual 197, 3, [108, 1, 0, 870, 11])]),
  (108, [(.iinc 3 (-1), 3, []), (.goto (-22), 3, [89])]),
  (114, [(.aload_n 0, 1, []), (.getfield 13, 3, [11, 1, 687, 1]), (.iload_n 1, 1, []), (.iconst 0, 1, []), (.iastore, 1, []), (.iload_n 2, 1, []), (.ireturn, 1, [0])])]
/-- QueueBrokerModel.remove(I)V -/
def bk_107 : List (Nat × List Ins) := [(0, [(.aload_n 0, 1, []), (.dup, 1, []), (.getfield 142, 3, [11, 31, 717, 0]), (.iconst 1, 1, []), (.isub, 1, []), (.putfield 142, 3, [11, 31, 717, 0]), (.aload_n 0, 1, []), (.getfield 68, 3, [11, 21, 707, 1]), (.iload_n 1, 1, []), (.aload_n 0, 1, []), (.getfield 68, 3, [11, 21, 707, 1]), (.aload_n 0, 1, []), (.getfield 142, 3, [11, 31, 717, 0]), (.iaload, 1, []), (.iastore, 1, []), (.aload_n 0, 1, []), (.getfield 71, 3, [11, 22, 708, 1]), (.iload_n 1, 1, []), (.aload_n 0, 1, []), (.getfield 71, 3, [11, 22, 708, 1]), (.aload_n 0, 1, []), (.getfield 142, 3, [11, 31, 717, 0]), (.iaload, 1, []), (.iastore, 1, []), (.aload_n 0, 1, []), (.getfield 74, 3, [11, 23, 709, 1]), (.iload_n 1, 1, []), (.aload_n 0, 1, []), (.getfield 74, 3, [11, 23, 709, 1]), (.aload_n 0, 1, []), (.getfield 142, 3, [11, 31, 717, 0]), (.iaload, 1, []), (.iastore, 1, []), (.aload_n 0, 1, []), (.getfield 77, 3, [11, 24, 710, 1]), (.iload_n 1, 1, []), (.aload_n 0, 1, []), (.getfield 77, 3, [11, 24, 710, 1]), (.aload_n 0, 1, []), (.getfield 142, 3, [11, 31, 717, 0]), (.iaload, 1, []), (.iastore, 1, []), (.aload_n 0, 1, []), (.getfield 80, 3, [11, 25, 711, 1]), (.iload_n 1, 1, []), (.aload_n 0, 1, []), (.getfield 80, 3, [11, 25, 711, 1]), (.aload_n 0, 1, []), (.getfield 142, 3, [11, 31, 717, 0]), (.iaload, 1, []), (.iastore, 1, []), (.aload_n 0, 1, []), (.getfield 83, 3, [11, 26, 712, 1]), (.iload_n 1, 1, []), (.aload_n 0, 1, []), (.getfield 83, 3, [11, 26, 712, 1]), (.aload_n 0, 1, []), (.getfield 142, 3, [11, 31, 717, 0]), (.iaload, 1, []), (.iastore, 1, []), (.aload_n 0, 1, []), (.getfield 86, 3, [11, 27, 713, 1]), (.iload_n 1, 1, []), (.aload_n 0, 1, []), (.getfield 86, 3, [11, 27, 713, 1]), (.aload_n 0, 1, []), (.getfield 142, 3, [11, 31, 717, 0]), (.iaload, 1, []), (.iastore, 1, []), (.aload_n 0, 1, []), (.getfield 89, 3, [11, 28, 714, 1]), (.iload_n 1, 1, []), (.aload_n 0, 1, []), (.getfield 89, 3, [11, 28, 714, 1]), (.aload_n 0, 1, []), (.getfield 142, 3, [11, 31, 717, 0]), (.iaload, 1, []), (.iastore, 1, []), (.aload_n 0, 1, []), (.getfield 92, 3, [11, 29, 715, 1]), (.iload_n 1, 1, []), (.aload_n 0, 1, []), (.getfield 92, 3, [11, 29, 715, 1]), (.aload_n 0, 1, []), (.getfield 142, 3, [11, 31, 717, 0]), (.baload, 1, []), (.bastore, 1, []), (.aload_n 0, 1, []), (.getfield 95, 3, [11, 30, 716, 1]), (.iload_n 1, 1, []), (.aload_n 0, 1, []), (.getfield 95, 3, [11, 30, 716, 1]), (.aload_n 0, 1, []), (.getfield 142, 3, [11, 31, 717, 0]), (.baload, 1, []), (.bastore, 1, []), (.return_, 1, [])])]
/-- QueueBrokerModel.removeConsumer(I)V -/
def bk_108 : List (Nat × List Ins) := [(0, [(.aload_n 0, 1, []), (.dup, 1, []), (.getfield 194, 3, [11, 12, 698, 0]), (.iconst 1, 1, []), (.isub, 1, []), (.putfield 194, 3, [11, 12, 698, 0]), (.iload_n 1, 1, []), (.istore_n 2, 1, [])]),
  (12, [(.iload_n 2, 1, []), (.aload_n 0, 1, []), (.getfield 194, 3, [11, 12, 698, 0]), (.if_icmp .ge 51, 3, [68]), (.aload_n 0, 1, []), (.getfield 35, 3, [11, 9, 695, 1]), (.iload_n 2, 1, []), (.aload_n 0, 1, []), (.getfield 35, 3, [11, 9, 695, 1]), (.iload_n 2, 1, []), (.iconst 1, 1, []), (.iadd, 1, []), (.iaload, 1, []), (.iastore, 1, []), (.aload_n 0, 1, []), (.getfield 38, 3, [11, 10, 696, 1]), (.iload_n 2, 1, []), (.aload_n 0, 1, []), (.getfield 38, 3, [11, 10, 696, 1]), (.iload_n 2, 1, []), (.iconst 1, 1, []), (.iadd, 1, []), (.iaload, 1, []), (.iastore, 1, []), (.aload_n 0, 1, []), (.getfield 41, 3, [11, 11, 697, 1]), (.iload_n 2, 1, []), (.aload_n 0, 1, []), (.getfield 41, 3, [11, 11, 697, 1]), (.iload_n 2, 1, []), (.iconst 1, 1, []), (.iadd, 1, []), (.baload, 1, []), (.bastore, 1, []), (.iinc 2 1, 3, []), (.goto (-53), 3, [12])]),
  (68, [(.return_, 1, [])])]
/-- QueueBrokerModel.publish(IIIII)I -/
def bk_109 : List (Nat × List Ins) := [(0, [(.iload_n 1, 1, []), (.iconst 4, 1, []), (.invokestatic 119, 3, [95, 2, 1, 822]), (.ifCond .eq 27, 3, [32]), (.aload_n 0, 1, []), (.iload_n 2, 1, []), (.invokevirtual 171, 3, [99, 1, 1, 837, 11]), (.ifCond .eq 19, 3, [32]), (.iload_n 3, 1, []), (.invokestatic 200, 3, [110, 1, 1, 878]), (.ifCond .eq 12, 3, [32]), (.iload 5, 2, []), (.iconst 4, 1, []), (.invokestatic 119, 3, [95, 2, 1, 822]), (.ifCond .ne 5, 3, [34])]),
  (32, [(.iconst (-1), 1, []), (.ireturn, 1, [0])]),
  (34, [(.aload_n 0, 1, []), (.getfield 53, 3, [11, 16, 702, 1]), (.iload_n 1, 1, []), (.baload, 1, []), (.ifCond .eq 15, 3, [55]), (.aload_n 0, 1, []), (.iload_n 1, 1, []), (.iload_n 2, 1, []), (.iload_n 3, 1, []), (.iload 4, 2, []), (.iload 5, 2, []), (.invokevirtual 203, 3, [111, 5, 1, 881, 11]), (.ireturn, 1, [0])]),
  (55, [(.aload_n 0, 1, []), (.iload_n 2, 1, []), (.iload_n 3, 1, []), (.invokevirtual 164, 3, [112, 2, 1, 885, 11]), (.istore 6, 2, []), (.iload 6, 2, []), (.ifCond .ne 12, 3, [77]), (.iload 5, 2, []), (.iconst 2, 1, []), (.if_icmp .lt 6, 3, [77]), (.bipush (-4), 2, []), (.ireturn, 1, [0])]),
  (77, [(.aload_n 0, 1, []), (.iload_n 2, 1, []), (.iload 4, 2, []), (.iload_n 3, 1, []), (.iconst 0, 1, []), (.iload 5, 2, []), (.iconst 2, 1, []), (.irem, 1, []), (.iconst 1, 1, []), (.if_icmp .ne 7, 3, [95]), (.iconst 1, 1, []), (.goto 4, 3, [96])]),
  (95, [(.iconst 0, 1, [])]),
  (96, [(.invokevirtual 180, 3, [114, 5, 1, 893, 11]), (.pop, 1, []), (.aload_n 0, 1, []), (.invokevirtual 207, 3, [119, 0, 0, 913, 11]), (.iload 6, 2, []), (.ireturn, 1, [0])])]
/-- QueueBrokerModel.isKey(I)Z -/
def bk_110 : List (Nat × List Ins) := [(0, [(.iconst 0, 1, []), (.istore_n 1, 1, [])]),
  (2, [(.iload_n 1, 1, []), (.bipush 8, 2, []), (.if_icmp .ge 21, 3, [26]), (.iload_n 0, 1, []), (.iload_n 1, 1, []), (.invokestatic 123, 3, [102, 2, 1, 847]), (.bipush 13, 2, []), (.if_icmp .le 5, 3, [20]), (.iconst 0, 1, []), (.ireturn, 1, [4])]),
  (20, [(.iinc 1 1, 3, []), (.goto (-21), 3, [2])]),
  (26, [(.iload_n 0, 1, []), (.invokestatic 131, 3, [100, 1, 1, 841]), (.ireturn, 1, [4])])]
/-- QueueBrokerModel.note(IIIII)I -/
def bk_111 : List (Nat × List Ins) := [(0, [(.aload_n 0, 1, []), (.getfield 50, 3, [11, 15, 701, 1]), (.iload_n 1, 1, []), (.iaload, 1, []), (.iconst 4, 1, []), (.if_icmp .ne 6, 3, [13]), (.bipush (-2), 2, []), (.ireturn, 1, [0])]),
  (13, [(.iload_n 1, 1, []), (.iconst 4, 1, []), (.imul, 1, []), (.aload_n 0, 1, []), (.getfield 50, 3, [11, 15, 701, 1]), (.iload_n 1, 1, []), (.iaload, 1, []), (.iadd, 1, []), (.istore 6, 2, []), (.aload_n 0, 1, []), (.getfield 56, 3, [11, 17, 703, 1]), (.iload 6, 2, []), (.iload_n 2, 1, []), (.iastore, 1, []), (.aload_n 0, 1, []), (.getfield 59, 3, [11, 18, 704, 1]), (.iload 6, 2, []), (.iload_n 3, 1, []), (.iastore, 1, []), (.aload_n 0, 1, []), (.getfield 62, 3, [11, 19, 705, 1]), (.iload 6, 2, []), (.iload 4, 2, []), (.iastore, 1, []), (.aload_n 0, 1, []), (.getfield 65, 3, [11, 20, 706, 1]), (.iload 6, 2, []), (.iload 5, 2, []), (.iastore, 1, []), (.aload_n 0, 1, []), (.getfield 50, 3, [11, 15, 701, 1]), (.iload_n 1, 1, []), (.dup2, 1, []), (.iaload, 1, []), (.iconst 1, 1, []), (.iadd, 1, []), (.iastore, 1, []), (.bipush 100, 2, []), (.ireturn, 1, [0])])]
/-- QueueBrokerModel.choose(II)I -/
def bk_112 : List (Nat × List Ins) := [(0, [(.iconst 0, 1, []), (.istore_n 3, 1, []), (.iconst 0, 1, []), (.istore 4, 2, [])]),
  (5, [(.iload 4, 2, []), (.bipush 6, 2, []), (.if_icmp .ge 137, 3, [146]), (.aload_n 0, 1, []), (.getfield 116, 3, [11, 42, 728, 1]), (.iload 4, 2, []), (.iconst 0, 1, []), (.bastore, 1, []), (.iconst 0, 1, []), (.istore 5, 2, [])]),
  (23, [(.iload 5, 2, []), (.aload_n 0, 1, []), (.getfield 135, 3, [11, 8, 694, 0]), (.if_icmp .ge 98, 3, [127]), (.aload_n 0, 1, []), (.getfield 26, 3, [11, 5, 691, 1]), (.iload 5, 2, []), (.iaload, 1, []), (.iload_n 1, 1, []), (.if_icmp .ne 81, 3, [121]), (.aload_n 0, 1, []), (.getfield 29, 3, [11, 6, 692, 1]), (.iload 5, 2, []), (.iaload, 1, []), (.iload 4, 2, []), (.if_icmp .eq 6, 3, [58]), (.goto 66, 3, [121])]),
  (58, [(.aload_n 0, 1, []), (.getfield 7, 3, [11, 0, 686, 1]), (.iload_n 1, 1, []), (.iaload, 1, []), (.iconst 1, 1, []), (.if_icmp .eq 48, 3, [113]), (.aload_n 0, 1, []), (.getfield 7, 3, [11, 0, 686, 1]), (.iload_n 1, 1, []), (.iaload, 1, []), (.ifCond .ne 14, 3, [88]), (.aload_n 0, 1, []), (.getfield 32, 3, [11, 7, 693, 1]), (.iload 5, 2, []), (.iaload, 1, []), (.iload_n 2, 1, []), (.if_icmp .eq 28, 3, [113])]),
  (88, [(.aload_n 0, 1, []), (.getfield 7, 3, [11, 0, 686, 1]), (.iload_n 1, 1, []), (.iaload, 1, []), (.iconst 2, 1, []), (.if_icmp .ne 26, 3, [121]), (.aload_n 0, 1, []), (.aload_n 0, 1, []), (.getfield 32, 3, [11, 7, 693, 1]), (.iload 5, 2, []), (.iaload, 1, []), (.iload_n 2, 1, []), (.invokevirtual 139, 3, [113, 2, 1, 889, 11]), (.ifCond .eq 11, 3, [121])]),
  (113, [(.aload_n 0, 1, []), (.getfield 116, 3, [11, 42, 728, 1]), (.iload 4, 2, []), (.iconst 1, 1, []), (.bastore, 1, [])]),
  (121, [(.iinc 5 1, 3, []), (.goto (-101), 3, [23])]),
  (127, [(.aload_n 0, 1, []), (.getfield 116, 3, [11, 42, 728, 1]), (.iload 4, 2, []), (.baload, 1, []), (.ifCond .eq 6, 3, [140]), (.iinc 3 1, 3, [])]),
  (140, [(.iinc 4 1, 3, []), (.goto (-138), 3, [5])]),
  (146, [(.iload_n 3, 1, []), (.ireturn, 1, [0])])]
/-- QueueBrokerModel.matches(II)Z -/
def bk_113 : List (Nat × List Ins) := [(0, [(.iload_n 1, 1, []), (.invokestatic 127, 3, [101, 1, 1, 844]), (.istore_n 3, 1, []), (.iload_n 2, 1, []), (.invokestatic 127, 3, [101, 1, 1, 844]), (.istore 4, 2, []), (.bipush 8, 2, []), (.istore 5, 2, [])]),
  (15, [(.iload 5, 2, []), (.iload_n 3, 1, []), (.if_icmp .lt 196, 3, [214]), (.bipush 8, 2, []), (.istore 6, 2, [])]),
  (25, [(.iload 6, 2, []), (.iload 4, 2, []), (.if_icmp .lt 179, 3, [208]), (.iload 5, 2, []), (.bipush 8, 2, []), (.if_icmp .ge 12, 3, [48]), (.iload_n 1, 1, []), (.iload 5, 2, []), (.invokestatic 123, 3, [102, 2, 1, 847]), (.goto 4, 3, [49])]),
  (48, [(.iconst 0, 1, [])]),
  (49, [(.istore 8, 2, []), (.iload 5, 2, []), (.bipush 8, 2, []), (.if_icmp .ne 20, 3, [75]), (.iload 6, 2, []), (.bipush 8, 2, []), (.if_icmp .ne 7, 3, [69]), (.iconst 1, 1, []), (.goto 4, 3, [70])]),
  (69, [(.iconst 0, 1, [])]),
  (70, [(.istore 7, 2, []), (.goto 115, 3, [187])]),
  (75, [(.iload 8, 2, []), (.bipush 15, 2, []), (.if_icmp .ne 56, 3, [135]), (.aload_n 0, 1, []), (.getfield 113, 3, [11, 41, 727, 1]), (.iload 5, 2, []), (.iconst 1, 1, []), (.iadd, 1, []), (.bipush 9, 2, []), (.imul, 1, []), (.iload 6, 2, []), (.iadd, 1, []), (.baload, 1, []), (.ifCond .ne 28, 3, [125]), (.iload 6, 2, []), (.bipush 8, 2, []), (.if_icmp .ge 25, 3, [129]), (.aload_n 0, 1, []), (.getfield 113, 3, [11, 41, 727, 1]), (.iload 5, 2, []), (.bipush 9, 2, []), (.imul, 1, []), (.iload 6, 2, []), (.iadd, 1, []), (.iconst 1, 1, []), (.iadd, 1, []), (.baload, 1, []), (.ifCond .eq 7, 3, [129])]),
  (125, [(.iconst 1, 1, []), (.goto 4, 3, [130])]),
  (129, [(.iconst 0, 1, [])]),
  (130, [(.istore 7, 2, []), (.goto 55, 3, [187])]),
  (135, [(.iload 6, 2, []), (.bipush 8, 2, []), (.if_icmp .ge 45, 3, [184]), (.iload 8, 2, []), (.bipush 14, 2, []), (.if_icmp .eq 14, 3, [160]), (.iload 8, 2, []), (.iload_n 2, 1, []), (.iload 6, 2, []), (.invokestatic 123, 3, [102, 2, 1, 847]), (.if_icmp .ne 27, 3, [184])]),
  (160, [(.aload_n 0, 1, []), (.getfield 113, 3, [11, 41, 727, 1]), (.iload 5, 2, []), (.iconst 1, 1, []), (.iadd, 1, []), (.bipush 9, 2, []), (.imul, 1, []), (.iload 6, 2, []), (.iadd, 1, []), (.iconst 1, 1, []), (.iadd, 1, []), (.baload, 1, []), (.ifCond .eq 7, 3, [184]), (.iconst 1, 1, []), (.goto 4, 3, [185])]),
  (184, [(.iconst 0, 1, [])]),
  (185, [(.istore 7, 2, [])]),
  (187, [(.aload_n 0, 1, []), (.getfield 113, 3, [11, 41, 727, 1]), (.iload 5, 2, []), (.bipush 9, 2, []), (.imul, 1, []), (.iload 6, 2, []), (.iadd, 1, []), (.iload 7, 2, []), (.bastore, 1, []), (.iinc 6 (-1), 3, []), (.goto (-180), 3, [25])]),
  (208, [(.iinc 5 (-1), 3, []), (.goto (-196), 3, [15])]),
  (214, [(.aload_n 0, 1, []), (.getfield 113, 3, [11, 41, 727, 1]), (.iload_n 3, 1, []), (.bipush 9, 2, []), (.imul, 1, []), (.iload 4, 2, []), (.iadd, 1, []), (.baload, 1, []), (.ireturn, 1, [4])])]
/-- QueueBrokerModel.route(IIIIZ)I -/
def bk_114 : List (Nat × List Ins) := [(0, [(.aload_n 0, 1, []), (.iload_n 1, 1, []), (.iload_n 3, 1, []), (.invokevirtual 164, 3, [112, 2, 1, 885, 11]), (.istore 6, 2, []), (.iconst 0, 1, []), (.istore 7, 2, [])]),
  (11, [(.iload 7, 2, []), (.bipush 6, 2, []), (.if_icmp .ge 31, 3, [46]), (.aload_n 0, 1, []), (.getfield 116, 3, [11, 42, 728, 1]), (.iload 7, 2, []), (.baload, 1, []), (.ifCond .eq 15, 3, [40]), (.aload_n 0, 1, []), (.iload 7, 2, []), (.iload_n 2, 1, []), (.iload_n 3, 1, []), (.iload 4, 2, []), (.iload 5, 2, []), (.invokevirtual 167, 3, [115, 5, 0, 897, 11])]),
  (40, [(.iinc 7 1, 3, []), (.goto (-32), 3, [11])]),
  (46, [(.iload 6, 2, []), (.ireturn, 1, [0])])]
/-- QueueBrokerModel.put(IIIIZ)V -/
def bk_115 : List (Nat × List Ins) := [(0, [(.aload_n 0, 1, []), (.getfield 142, 3, [11, 31, 717, 0]), (.istore 6, 2, []), (.aload_n 0, 1, []), (.dup, 1, []), (.getfield 142, 3, [11, 31, 717, 0]), (.iconst 1, 1, []), (.iadd, 1, []), (.putfield 142, 3, [11, 31, 717, 0]), (.aload_n 0, 1, []), (.dup, 1, []), (.getfield 152, 3, [11, 32, 718, 0]), (.iconst 1, 1, []), (.iadd, 1, []), (.putfield 152, 3, [11, 32, 718, 0]), (.aload_n 0, 1, []), (.getfield 68, 3, [11, 21, 707, 1]), (.iload 6, 2, []), (.iload_n 2, 1, []), (.iastore, 1, []), (.aload_n 0, 1, []), (.getfield 71, 3, [11, 22, 708, 1]), (.iload 6, 2, []), (.iload_n 3, 1, []), (.iastore, 1, []), (.aload_n 0, 1, []), (.getfield 74, 3, [11, 23, 709, 1]), (.iload 6, 2, []), (.iload 4, 2, []), (.iastore, 1, []), (.aload_n 0, 1, []), (.getfield 77, 3, [11, 24, 710, 1]), (.iload 6, 2, []), (.iload_n 1, 1, []), (.iastore, 1, []), (.aload_n 0, 1, []), (.getfield 80, 3, [11, 25, 711, 1]), (.iload 6, 2, []), (.aload_n 0, 1, []), (.getfield 152, 3, [11, 32, 718, 0]), (.iastore, 1, []), (.aload_n 0, 1, []), (.getfield 83, 3, [11, 26, 712, 1]), (.iload 6, 2, []), (.iconst (-1), 1, []), (.iastore, 1, []), (.aload_n 0, 1, []), (.getfield 86, 3, [11, 27, 713, 1]), (.iload 6, 2, []), (.iconst 0, 1, []), (.iastore, 1, []), (.aload_n 0, 1, []), (.getfield 89, 3, [11, 28, 714, 1]), (.iload 6, 2, []), (.iconst 0, 1, []), (.iastore, 1, []), (.aload_n 0, 1, []), (.getfield 92, 3, [11, 29, 715, 1]), (.iload 6, 2, []), (.iload 5, 2, []), (.bastore, 1, []), (.aload_n 0, 1, []), (.getfield 95, 3, [11, 30, 716, 1]), (.iload 6, 2, []), (.iconst 0, 1, []), (.bastore, 1, []), (.iconst 0, 1, []), (.istore 7, 2, [])]),
  (114, [(.iload 7, 2, []), (.sipush 200, 3, []), (.if_icmp .ge 37, 3, [156]), (.aload_n 0, 1, []), (.iload_n 1, 1, []), (.invokevirtual 155, 3, [116, 1, 1, 901, 11]), (.aload_n 0, 1, []), (.getfield 13, 3, [11, 1, 687, 1]), (.iload_n 1, 1, []), (.iaload, 1, []), (.if_icmp .le 23, 3, [156]), (.aload_n 0, 1, []), (.iload_n 1, 1, []), (.iconst 0, 1, []), (.invokevirtual 158, 3, [117, 2, 1, 905, 11]), (.istore 8, 2, []), (.aload_n 0, 1, []), (.iload 8, 2, []), (.invokevirtual 161, 3, [118, 1, 0, 909, 11]), (.iinc 7 1, 3, []), (.goto (-39), 3, [114])]),
  (156, [(.return_, 1, [])])]
/-- QueueBrokerModel.readyCount(I)I -/
def bk_116 : List (Nat × List Ins) := [(0, [(.iconst 0, 1, []), (.istore_n 2, 1, []), (.iconst 0, 1, []), (.istore_n 3, 1, [])]),
  (4, [(.iload_n 3, 1, []), (.aload_n 0, 1, []), (.getfield 142, 3, [11, 31, 717, 0]), (.if_icmp .ge 31, 3, [40]), (.aload_n 0, 1, []), (.getfield 77, 3, [11, 24, 710, 1]), (.iload_n 3, 1, []), (.iaload, 1, []), (.iload_n 1, 1, []), (.if_icmp .ne 15, 3, [34]), (.aload_n 0, 1, []), (.getfield 83, 3, [11, 26, 712, 1]), (.iload_n 3, 1, []), (.iaload, 1, []), (.ifCond .ge 6, 3, [34]), (.iinc 2 1, 3, [])]),
  (34, [(.iinc 3 1, 3, []), (.goto (-33), 3, [4])]),
  (40, [(.iload_n 2, 1, []), (.ireturn, 1, [0])])]
/-- QueueBrokerModel.readyAt(II)I -/
def bk_117 : List (Nat × List Ins) := [(0, [(.iconst 0, 1, []), (.istore_n 3, 1, [])]),
  (2, [(.iload_n 3, 1, []), (.aload_n 0, 1, []), (.getfield 142, 3, [11, 31, 717, 0]), (.if_icmp .ge 100, 3, [107]), (.aload_n 0, 1, []), (.getfield 77, 3, [11, 24, 710, 1]), (.iload_n 3, 1, []), (.iaload, 1, []), (.iload_n 1, 1, []), (.if_icmp .ne 84, 3, [101]), (.aload_n 0, 1, []), (.getfield 83, 3, [11, 26, 712, 1]), (.iload_n 3, 1, []), (.iaload, 1, []), (.ifCond .lt 6, 3, [32]), (.goto 72, 3, [101])]),
  (32, [(.iconst 0, 1, []), (.istore 4, 2, []), (.iconst 0, 1, []), (.istore 5, 2, [])]),
  (38, [(.iload 5, 2, []), (.aload_n 0, 1, []), (.getfield 142, 3, [11, 31, 717, 0]), (.if_icmp .ge 49, 3, [93]), (.aload_n 0, 1, []), (.getfield 77, 3, [11, 24, 710, 1]), (.iload 5, 2, []), (.iaload, 1, []), (.iload_n 1, 1, []), (.if_icmp .ne 32, 3, [87]), (.aload_n 0, 1, []), (.getfield 83, 3, [11, 26, 712, 1]), (.iload 5, 2, []), (.iaload, 1, []), (.ifCond .ge 22, 3, [87]), (.aload_n 0, 1, []), (.getfield 80, 3, [11, 25, 711, 1]), (.iload 5, 2, []), (.iaload, 1, []), (.aload_n 0, 1, []), (.getfield 80, 3, [11, 25, 711, 1]), (.iload_n 3, 1, []), (.iaload, 1, []), (.if_icmp .ge 6, 3, [87]), (.iinc 4 1, 3, [])]),
  (87, [(.iinc 5 1, 3, []), (.goto (-52), 3, [38])]),
  (93, [(.iload 4, 2, []), (.iload_n 2, 1, []), (.if_icmp .ne 5, 3, [101]), (.iload_n 3, 1, []), (.ireturn, 1, [0])]),
  (101, [(.iinc 3 1, 3, []), (.goto (-102), 3, [2])]),
  (107, [(.iconst (-1), 1, []), (.ireturn, 1, [0])])]
/-- QueueBrokerModel.letter(I)V -/
def bk_118 : List (Nat × List Ins) := [(0, [(.aload_n 0, 1, []), (.getfield 98, 3, [11, 33, 719, 1]), (.aload_n 0, 1, []), (.getfield 145, 3, [11, 38, 724, 0]), (.aload_n 0, 1, []), (.getfield 68, 3, [11, 21, 707, 1]), (.iload_n 1, 1, []), (.iaload, 1, []), (.iastore, 1, []), (.aload_n 0, 1, []), (.getfield 101, 3, [11, 34, 720, 1]), (.aload_n 0, 1, []), (.getfield 145, 3, [11, 38, 724, 0]), (.aload_n 0, 1, []), (.getfield 71, 3, [11, 22, 708, 1]), (.iload_n 1, 1, []), (.iaload, 1, []), (.iastore, 1, []), (.aload_n 0, 1, []), (.getfield 104, 3, [11, 35, 721, 1]), (.aload_n 0, 1, []), (.getfield 145, 3, [11, 38, 724, 0]), (.aload_n 0, 1, []), (.getfield 74, 3, [11, 23, 709, 1]), (.iload_n 1, 1, []), (.iaload, 1, []), (.iastore, 1, []), (.aload_n 0, 1, []), (.getfield 107, 3, [11, 36, 722, 1]), (.aload_n 0, 1, []), (.getfield 145, 3, [11, 38, 724, 0]), (.aload_n 0, 1, []), (.getfield 16, 3, [11, 2, 688, 1]), (.aload_n 0, 1, []), (.getfield 77, 3, [11, 24, 710, 1]), (.iload_n 1, 1, []), (.iaload, 1, []), (.iaload, 1, []), (.iastore, 1, []), (.aload_n 0, 1, []), (.getfield 110, 3, [11, 37, 723, 1]), (.aload_n 0, 1, []), (.getfield 145, 3, [11, 38, 724, 0]), (.aload_n 0, 1, []), (.getfield 92, 3, [11, 29, 715, 1]), (.iload_n 1, 1, []), (.baload, 1, []), (.bastore, 1, []), (.aload_n 0, 1, []), (.dup, 1, []), (.getfield 145, 3, [11, 38, 724, 0]), (.iconst 1, 1, []), (.iadd, 1, []), (.putfield 145, 3, [11, 38, 724, 0]), (.aload_n 0, 1, []), (.iload_n 1, 1, []), (.invokevirtual 148, 3, [107, 1, 0, 866, 11]), (.return_, 1, [])])]
/-- QueueBrokerModel.routeLetters()V -/
def bk_119 : List (Nat × List Ins) := [(0, [(.iconst 0, 1, []), (.istore_n 1, 1, []), (.iconst 0, 1, []), (.istore_n 2, 1, [])]),
  (4, [(.iload_n 2, 1, []), (.aload_n 0, 1, []), (.getfield 145, 3, [11, 38, 724, 0]), (.if_icmp .ge 100, 3, [109]), (.aload_n 0, 1, []), (.aload_n 0, 1, []), (.getfield 107, 3, [11, 36, 722, 1]), (.iload_n 2, 1, []), (.iaload, 1, []), (.invokevirtual 171, 3, [99, 1, 1, 837, 11]), (.ifCond .eq 18, 3, [40]), (.aload_n 0, 1, []), (.getfield 104, 3, [11, 35, 721, 1]), (.iload_n 2, 1, []), (.iaload, 1, []), (.iconst 3, 1, []), (.if_icmp .eq 8, 3, [40]), (.iload_n 1, 1, []), (.iconst 3, 1, []), (.if_icmp .ne 16, 3, [53])]),
  (40, [(.aload_n 0, 1, []), (.dup, 1, []), (.getfield 174, 3, [11, 40, 726, 0]), (.iconst 1, 1, []), (.iadd, 1, []), (.putfield 174, 3, [11, 40, 726, 0]), (.goto 53, 3, [103])]),
  (53, [(.iinc 1 1, 3, []), (.aload_n 0, 1, []), (.dup, 1, []), (.getfield 177, 3, [11, 39, 725, 0]), (.iconst 1, 1, []), (.iadd, 1, []), (.putfield 177, 3, [11, 39, 725, 0]), (.aload_n 0, 1, []), (.aload_n 0, 1, []), (.getfield 107, 3, [11, 36, 722, 1]), (.iload_n 2, 1, []), (.iaload, 1, []), (.aload_n 0, 1, []), (.getfield 98, 3, [11, 33, 719, 1]), (.iload_n 2, 1, []), (.iaload, 1, []), (.aload_n 0, 1, []), (.getfield 101, 3, [11, 34, 720, 1]), (.iload_n 2, 1, []), (.iaload, 1, []), (.aload_n 0, 1, []), (.getfield 104, 3, [11, 35, 721, 1]), (.iload_n 2, 1, []), (.iaload, 1, []), (.iconst 1, 1, []), (.iadd, 1, []), (.aload_n 0, 1, []), (.getfield 110, 3, [11, 37, 723, 1]), (.iload_n 2, 1, []), (.baload, 1, []), (.invokevirtual 180, 3, [114, 5, 1, 893, 11]), (.pop, 1, [])]),
  (103, [(.iinc 2 1, 3, []), (.goto (-102), 3, [4])]),
  (109, [(.aload_n 0, 1, []), (.iconst 0, 1, []), (.putfield 145, 3, [11, 38, 724, 0]), (.return_, 1, [])])]
/-- QueueBrokerModel.consume(IIZ)I -/
def bk_120 : List (Nat × List Ins) := [(0, [(.iload_n 1, 1, []), (.iconst 4, 1, []), (.invokestatic 119, 3, [95, 2, 1, 822]), (.ifCond .eq 11, 3, [16]), (.aload_n 0, 1, []), (.iload_n 2, 1, []), (.invokevirtual 184, 3, [97, 1, 1, 829, 11]), (.ifCond .ne 5, 3, [18])]),
  (16, [(.iconst (-1), 1, []), (.ireturn, 1, [0])]),
  (18, [(.aload_n 0, 1, []), (.iload_n 1, 1, []), (.iload_n 2, 1, []), (.invokevirtual 210, 3, [121, 2, 1, 921, 11]), (.ifCond .lt 6, 3, [30]), (.bipush (-3), 2, []), (.ireturn, 1, [0])]),
  (30, [(.aload_n 0, 1, []), (.iload_n 2, 1, []), (.iload_n 1, 1, []), (.iload_n 3, 1, []), (.invokevirtual 213, 3, [122, 3, 0, 925, 11]), (.iconst 0, 1, []), (.ireturn, 1, [0])])]
/-- QueueBrokerModel.consumer(II)I -/
def bk_121 : List (Nat × List Ins) := [(0, [(.iconst 0, 1, []), (.istore_n 3, 1, [])]),
  (2, [(.iload_n 3, 1, []), (.aload_n 0, 1, []), (.getfield 194, 3, [11, 12, 698, 0]), (.if_icmp .ge 31, 3, [38]), (.aload_n 0, 1, []), (.getfield 38, 3, [11, 10, 696, 1]), (.iload_n 3, 1, []), (.iaload, 1, []), (.iload_n 1, 1, []), (.if_icmp .ne 15, 3, [32]), (.aload_n 0, 1, []), (.getfield 35, 3, [11, 9, 695, 1]), (.iload_n 3, 1, []), (.iaload, 1, []), (.iload_n 2, 1, []), (.if_icmp .ne 5, 3, [32]), (.iload_n 3, 1, []), (.ireturn, 1, [0])]),
  (32, [(.iinc 3 1, 3, []), (.goto (-33), 3, [2])]),
  (38, [(.iconst (-1), 1, []), (.ireturn, 1, [0])])]
/-- QueueBrokerModel.addConsumer(IIZ)V -/
def bk_122 : List (Nat × List Ins) := [(0, [(.aload_n 0, 1, []), (.getfield 35, 3, [11, 9, 695, 1]), (.aload_n 0, 1, []), (.getfield 194, 3, [11, 12, 698, 0]), (.iload_n 1, 1, []), (.iastore, 1, []), (.aload_n 0, 1, []), (.getfield 38, 3, [11, 10, 696, 1]), (.aload_n 0, 1, []), (.getfield 194, 3, [11, 12, 698, 0]), (.iload_n 2, 1, []), (.iastore, 1, []), (.aload_n 0, 1, []), (.getfield 41, 3, [11, 11, 697, 1]), (.aload_n 0, 1, []), (.getfield 194, 3, [11, 12, 698, 0]), (.iload_n 3, 1, []), (.bastore, 1, []), (.aload_n 0, 1, []), (.dup, 1, []), (.getfield 194, 3, [11, 12, 698, 0]), (.iconst 1, 1, []), (.iadd, 1, []), (.putfield 194, 3, [11, 12, 698, 0]), (.return_, 1, [])])]
/-- QueueBrokerModel.cancel(II)I -/
def bk_123 : List (Nat × List Ins) := [(0, [(.iload_n 1, 1, []), (.iconst 4, 1, []), (.invokestatic 119, 3, [95, 2, 1, 822]), (.ifCond .eq 11, 3, [16]), (.aload_n 0, 1, []), (.iload_n 2, 1, []), (.invokevirtual 184, 3, [97, 1, 1, 829, 11]), (.ifCond .ne 5, 3, [18])]),
  (16, [(.iconst (-1), 1, []), (.ireturn, 1, [0])]),
  (18, [(.aload_n 0, 1, []), (.iload_n 1, 1, []), (.iload_n 2, 1, []), (.invokevirtual 210, 3, [121, 2, 1, 921, 11]), (.istore_n 3, 1, []), (.iload_n 3, 1, []), (.ifCond .ge 6, 3, [32]), (.bipush (-3), 2, []), (.ireturn, 1, [0])]),
  (32, [(.aload_n 0, 1, []), (.iload_n 3, 1, []), (.invokevirtual 197, 3, [108, 1, 0, 870, 11]), (.iconst 0, 1, []), (.ireturn, 1, [0])])]
/-- QueueBrokerModel.deliver(I)I -/
def bk_124 : List (Nat × List Ins) := [(0, [(.aload_n 0, 1, []), (.iload_n 1, 1, []), (.invokevirtual 184, 3, [97, 1, 1, 829, 11]), (.ifCond .ne 5, 3, [10]), (.iconst (-1), 1, []), (.ireturn, 1, [0])]),
  (10, [(.aload_n 0, 1, []), (.iload_n 1, 1, []), (.iconst 0, 1, []), (.invokevirtual 158, 3, [117, 2, 1, 905, 11]), (.istore_n 2, 1, []), (.iload_n 2, 1, []), (.ifCond .ge 6, 3, [24]), (.bipush (-5), 2, []), (.ireturn, 1, [0])]),
  (24, [(.iconst 0, 1, []), (.istore_n 3, 1, [])]),
  (26, [(.iload_n 3, 1, []), (.aload_n 0, 1, []), (.getfield 194, 3, [11, 12, 698, 0]), (.if_icmp .ge 121, 3, [152]), (.aload_n 0, 1, []), (.getfield 38, 3, [11, 10, 696, 1]), (.iload_n 3, 1, []), (.iaload, 1, []), (.istore 4, 2, []), (.aload_n 0, 1, []), (.getfield 41, 3, [11, 11, 697, 1]), (.iload_n 3, 1, []), (.baload, 1, []), (.istore 5, 2, []), (.aload_n 0, 1, []), (.getfield 35, 3, [11, 9, 695, 1]), (.iload_n 3, 1, []), (.iaload, 1, []), (.iload_n 1, 1, []), (.if_icmp .ne 89, 3, [146]), (.iload 5, 2, []), (.ifCond .ne 22, 3, [84]), (.aload_n 0, 1, []), (.iload 4, 2, []), (.invokevirtual 217, 3, [125, 1, 1, 937, 11]), (.aload_n 0, 1, []), (.getfield 44, 3, [11, 13, 699, 1]), (.iload 4, 2, []), (.iaload, 1, []), (.if_icmp .lt 6, 3, [84]), (.goto 65, 3, [146])]),
  (84, [(.aload_n 0, 1, []), (.iload_n 3, 1, []), (.invokevirtual 197, 3, [108, 1, 0, 870, 11]), (.aload_n 0, 1, []), (.iload_n 1, 1, []), (.iload 4, 2, []), (.iload 5, 2, []), (.invokevirtual 213, 3, [122, 3, 0, 925, 11]), (.iload 5, 2, []), (.ifCond .eq 11, 3, [111]), (.aload_n 0, 1, []), (.iload_n 2, 1, []), (.invokevirtual 148, 3, [107, 1, 0, 866, 11]), (.iload 4, 2, []), (.ireturn, 1, [0])]),
  (111, [(.aload_n 0, 1, []), (.getfield 47, 3, [11, 14, 700, 1]), (.iload 4, 2, []), (.dup2, 1, []), (.iaload, 1, []), (.iconst 1, 1, []), (.iadd, 1, []), (.iastore, 1, []), (.aload_n 0, 1, []), (.getfield 83, 3, [11, 26, 712, 1]), (.iload_n 2, 1, []), (.iload 4, 2, []), (.iastore, 1, []), (.aload_n 0, 1, []), (.getfield 86, 3, [11, 27, 713, 1]), (.iload_n 2, 1, []), (.aload_n 0, 1, []), (.getfield 47, 3, [11, 14, 700, 1]), (.iload 4, 2, []), (.iaload, 1, []), (.iastore, 1, []), (.iload 4, 2, []), (.ireturn, 1, [0])]),
  (146, [(.iinc 3 1, 3, []), (.goto (-123), 3, [26])]),
  (152, [(.bipush (-6), 2, []), (.ireturn, 1, [0])])]
/-- QueueBrokerModel.heldCount(I)I -/
def bk_125 : List (Nat × List Ins) := [(0, [(.iconst 0, 1, []), (.istore_n 2, 1, []), (.iconst 0, 1, []), (.istore_n 3, 1, [])]),
  (4, [(.iload_n 3, 1, []), (.aload_n 0, 1, []), (.getfield 142, 3, [11, 31, 717, 0]), (.if_icmp .ge 22, 3, [31]), (.aload_n 0, 1, []), (.getfield 83, 3, [11, 26, 712, 1]), (.iload_n 3, 1, []), (.iaload, 1, []), (.iload_n 1, 1, []), (.if_icmp .ne 6, 3, [25]), (.iinc 2 1, 3, [])]),
  (25, [(.iinc 3 1, 3, []), (.goto (-24), 3, [4])]),
  (31, [(.iload_n 2, 1, []), (.ireturn, 1, [0])])]
/-- QueueBrokerModel.settle(IIZI)I -/
def bk_126 : List (Nat × List Ins) := [(0, [(.iload_n 1, 1, []), (.iconst 4, 1, []), (.invokestatic 119, 3, [95, 2, 1, 822]), (.ifCond .eq 24, 3, [29]), (.iload_n 2, 1, []), (.ifCond .lt 20, 3, [29]), (.iload_n 2, 1, []), (.ifCond .ne 7, 3, [20]), (.iload_n 3, 1, []), (.ifCond .eq 12, 3, [29])]),
  (20, [(.iload 4, 2, []), (.iconst 3, 1, []), (.invokestatic 119, 3, [95, 2, 1, 822]), (.ifCond .ne 5, 3, [31])]),
  (29, [(.iconst (-1), 1, []), (.ireturn, 1, [0])]),
  (31, [(.iconst 0, 1, []), (.istore 5, 2, []), (.iconst 0, 1, []), (.istore 6, 2, [])]),
  (37, [(.iload 6, 2, []), (.aload_n 0, 1, []), (.getfield 142, 3, [11, 31, 717, 0]), (.if_icmp .ge 24, 3, [67]), (.aload_n 0, 1, []), (.iload 6, 2, []), (.iload_n 1, 1, []), (.iload_n 2, 1, []), (.iload_n 3, 1, []), (.invokevirtual 220, 3, [127, 4, 1, 945, 11]), (.ifCond .eq 6, 3, [61]), (.iinc 5 1, 3, [])]),
  (61, [(.iinc 6 1, 3, []), (.goto (-27), 3, [37])]),
  (67, [(.iload 5, 2, []), (.ifCond .ne 5, 3, [74]), (.iconst (-1), 1, []), (.ireturn, 1, [0])]),
  (74, [(.aload_n 0, 1, []), (.getfield 53, 3, [11, 16, 702, 1]), (.iload_n 1, 1, []), (.baload, 1, []), (.ifCond .ne 22, 3, [102]), (.aload_n 0, 1, []), (.iload_n 1, 1, []), (.iconst 0, 1, []), (.iload_n 2, 1, []), (.iload_n 3, 1, []), (.iload 4, 2, []), (.invokevirtual 228, 3, [128, 5, 1, 949, 11]), (.istore 5, 2, []), (.aload_n 0, 1, []), (.invokevirtual 207, 3, [119, 0, 0, 913, 11]), (.iload 5, 2, []), (.ireturn, 1, [0])]),
  (102, [(.aload_n 0, 1, []), (.iload_n 1, 1, []), (.iconst (-1), 1, []), (.iconst 0, 1, []), (.iconst 0, 1, []), (.iload 4, 2, []), (.invokevirtual 203, 3, [111, 5, 1, 881, 11]), (.istore 6, 2, []), (.iconst 0, 1, []), (.istore 7, 2, [])]),
  (117, [(.iload 6, 2, []), (.bipush 100, 2, []), (.if_icmp .ne 43, 3, [164]), (.iload 7, 2, []), (.aload_n 0, 1, []), (.getfield 142, 3, [11, 31, 717, 0]), (.if_icmp .ge 34, 3, [164]), (.aload_n 0, 1, []), (.iload 7, 2, []), (.iload_n 1, 1, []), (.iload_n 2, 1, []), (.iload_n 3, 1, []), (.invokevirtual 220, 3, [127, 4, 1, 945, 11]), (.ifCond .eq 16, 3, [158]), (.aload_n 0, 1, []), (.getfield 89, 3, [11, 28, 714, 1]), (.iload 7, 2, []), (.aload_n 0, 1, []), (.getfield 50, 3, [11, 15, 701, 1]), (.iload_n 1, 1, []), (.iaload, 1, []), (.iastore, 1, [])]),
  (158, [(.iinc 7 1, 3, []), (.goto (-44), 3, [117])]),
  (164, [(.iload 6, 2, []), (.ireturn, 1, [0])])]
/-- QueueBrokerModel.meant(IIIZ)Z -/
def bk_127 : List (Nat × List Ins) := [(0, [(.aload_n 0, 1, []), (.getfield 83, 3, [11, 26, 712, 1]), (.iload_n 1, 1, []), (.iaload, 1, []), (.iload_n 2, 1, []), (.if_icmp .ne 12, 3, [19]), (.aload_n 0, 1, []), (.getfield 89, 3, [11, 28, 714, 1]), (.iload_n 1, 1, []), (.iaload, 1, []), (.ifCond .eq 5, 3, [21])]),
  (19, [(.iconst 0, 1, []), (.ireturn, 1, [4])]),
  (21, [(.iload 4, 2, []), (.ifCond .eq 25, 3, [48]), (.iload_n 3, 1, []), (.ifCond .eq 13, 3, [40]), (.aload_n 0, 1, []), (.getfield 86, 3, [11, 27, 713, 1]), (.iload_n 1, 1, []), (.iaload, 1, []), (.iload_n 3, 1, []), (.if_icmp .gt 7, 3, [44])]),
  (40, [(.iconst 1, 1, []), (.goto 22, 3, [63])]),
  (44, [(.iconst 0, 1, []), (.goto 18, 3, [63])]),
  (48, [(.aload_n 0, 1, []), (.getfield 86, 3, [11, 27, 713, 1]), (.iload_n 1, 1, []), (.iaload, 1, []), (.iload_n 3, 1, []), (.if_icmp .ne 7, 3, [62]), (.iconst 1, 1, []), (.goto 4, 3, [63])]),
  (62, [(.iconst 0, 1, [])]),
  (63, [(.ireturn, 1, [4])])]
/-- QueueBrokerModel.settleAll(IIIZI)I -/
def bk_128 : List (Nat × List Ins) := [(0, [(.iconst 0, 1, []), (.istore 6, 2, []), (.iconst 0, 1, []), (.istore 7, 2, []), (.iconst 0, 1, []), (.istore 8, 2, [])]),
  (9, [(.iload 8, 2, []), (.bipush 60, 2, []), (.if_icmp .ge 147, 3, [160]), (.iconst (-1), 1, []), (.istore 9, 2, []), (.iconst 0, 1, []), (.istore 10, 2, [])]),
  (22, [(.iload 10, 2, []), (.aload_n 0, 1, []), (.getfield 142, 3, [11, 31, 717, 0]), (.if_icmp .ge 98, 3, [126]), (.iload_n 2, 1, []), (.ifCond .le 33, 3, [65]), (.aload_n 0, 1, []), (.getfield 83, 3, [11, 26, 712, 1]), (.iload 10, 2, []), (.iaload, 1, []), (.iload_n 1, 1, []), (.if_icmp .ne 18, 3, [61]), (.aload_n 0, 1, []), (.getfield 89, 3, [11, 28, 714, 1]), (.iload 10, 2, []), (.iaload, 1, []), (.iload_n 2, 1, []), (.if_icmp .ne 7, 3, [61]), (.iconst 1, 1, []), (.goto 17, 3, [75])]),
  (61, [(.iconst 0, 1, []), (.goto 13, 3, [75])]),
  (65, [(.aload_n 0, 1, []), (.iload 10, 2, []), (.iload_n 1, 1, []), (.iload_n 3, 1, []), (.iload 4, 2, []), (.invokevirtual 220, 3, [127, 4, 1, 945, 11])]),
  (75, [(.istore 11, 2, []), (.iload 11, 2, []), (.ifCond .eq 41, 3, [120]), (.aload_n 0, 1, []), (.getfield 86, 3, [11, 27, 713, 1]), (.iload 10, 2, []), (.iaload, 1, []), (.iload 7, 2, []), (.if_icmp .le 29, 3, [120]), (.iload 9, 2, []), (.ifCond .lt 20, 3, [116]), (.aload_n 0, 1, []), (.getfield 86, 3, [11, 27, 713, 1]), (.iload 10, 2, []), (.iaload, 1, []), (.aload_n 0, 1, []), (.getfield 86, 3, [11, 27, 713, 1]), (.iload 9, 2, []), (.iaload, 1, []), (.if_icmp .ge 7, 3, [120])]),
  (116, [(.iload 10, 2, []), (.istore 9, 2, [])]),
  (120, [(.iinc 10 1, 3, []), (.goto (-101), 3, [22])]),
  (126, [(.iload 9, 2, []), (.ifCond .ge 6, 3, [134]), (.iload 6, 2, []), (.ireturn, 1, [0])]),
  (134, [(.aload_n 0, 1, []), (.getfield 86, 3, [11, 27, 713, 1]), (.iload 9, 2, []), (.iaload, 1, []), (.istore 7, 2, []), (.aload_n 0, 1, []), (.iload 9, 2, []), (.iload 5, 2, []), (.invokevirtual 224, 3, [129, 2, 0, 953, 11]), (.iinc 6 1, 3, []), (.iinc 8 1, 3, []), (.goto (-148), 3, [9])]),
  (160, [(.iload 6, 2, []), (.ireturn, 1, [0])])]
/-- QueueBrokerModel.settleOne(II)V -/
def bk_129 : List (Nat × List Ins) := [(0, [(.iload_n 2, 1, []), (.ifCond .ne 8, 3, [9]), (.aload_n 0, 1, []), (.iload_n 1, 1, []), (.invokevirtual 148, 3, [107, 1, 0, 866, 11])]),
  (9, [(.iload_n 2, 1, []), (.iconst 2, 1, []), (.if_icmp .ne 8, 3, [19]), (.aload_n 0, 1, []), (.iload_n 1, 1, []), (.invokevirtual 161, 3, [118, 1, 0, 909, 11])]),
  (19, [(.iload_n 2, 1, []), (.iconst 1, 1, []), (.if_icmp .eq 4, 3, [25]), (.return_, 1, [])]),
  (25, [(.aload_n 0, 1, []), (.getfield 83, 3, [11, 26, 712, 1]), (.iload_n 1, 1, []), (.iconst (-1), 1, []), (.iastore, 1, []), (.aload_n 0, 1, []), (.getfield 89, 3, [11, 28, 714, 1]), (.iload_n 1, 1, []), (.iconst 0, 1, []), (.iastore, 1, []), (.aload_n 0, 1, []), (.getfield 95, 3, [11, 30, 716, 1]), (.iload_n 1, 1, []), (.iconst 1, 1, []), (.bastore, 1, []), (.return_, 1, [])])]
/-- QueueBrokerModel.prefetch(II)I -/
def bk_130 : List (Nat × List Ins) := [(0, [(.iload_n 1, 1, []), (.iconst 4, 1, []), (.invokestatic 119, 3, [95, 2, 1, 822]), (.ifCond .eq 14, 3, [19]), (.iload_n 2, 1, []), (.iconst 1, 1, []), (.if_icmp .lt 9, 3, [19]), (.iload_n 2, 1, []), (.bipush 12, 2, []), (.if_icmp .le 5, 3, [21])]),
  (19, [(.iconst (-1), 1, []), (.ireturn, 1, [0])]),
  (21, [(.aload_n 0, 1, []), (.getfield 44, 3, [11, 13, 699, 1]), (.iload_n 1, 1, []), (.iload_n 2, 1, []), (.iastore, 1, []), (.iconst 0, 1, []), (.ireturn, 1, [0])])]
/-- QueueBrokerModel.begin(I)I -/
def bk_131 : List (Nat × List Ins) := [(0, [(.iload_n 1, 1, []), (.iconst 4, 1, []), (.invokestatic 119, 3, [95, 2, 1, 822]), (.ifCond .ne 5, 3, [10]), (.iconst (-1), 1, []), (.ireturn, 1, [0])]),
  (10, [(.aload_n 0, 1, []), (.getfield 53, 3, [11, 16, 702, 1]), (.iload_n 1, 1, []), (.baload, 1, []), (.ifCond .eq 6, 3, [22]), (.bipush (-3), 2, []), (.ireturn, 1, [0])]),
  (22, [(.aload_n 0, 1, []), (.getfield 53, 3, [11, 16, 702, 1]), (.iload_n 1, 1, []), (.iconst 1, 1, []), (.bastore, 1, []), (.iconst 0, 1, []), (.ireturn, 1, [0])])]
/-- QueueBrokerModel.commit(I)I -/
def bk_132 : List (Nat × List Ins) := [(0, [(.iload_n 1, 1, []), (.iconst 4, 1, []), (.invokestatic 119, 3, [95, 2, 1, 822]), (.ifCond .ne 5, 3, [10]), (.iconst (-1), 1, []), (.ireturn, 1, [0])]),
  (10, [(.aload_n 0, 1, []), (.getfield 53, 3, [11, 16, 702, 1]), (.iload_n 1, 1, []), (.baload, 1, []), (.ifCond .ne 6, 3, [22]), (.bipush (-3), 2, []), (.ireturn, 1, [0])]),
  (22, [(.iconst 0, 1, []), (.istore_n 2, 1, [])]),
  (24, [(.iload_n 2, 1, []), (.aload_n 0, 1, []), (.getfield 50, 3, [11, 15, 701, 1]), (.iload_n 1, 1, []), (.iaload, 1, []), (.if_icmp .ge 98, 3, [129]), (.iload_n 1, 1, []), (.iconst 4, 1, []), (.imul, 1, []), (.iload_n 2, 1, []), (.iadd, 1, []), (.istore_n 3, 1, []), (.aload_n 0, 1, []), (.getfield 56, 3, [11, 17, 703, 1]), (.iload_n 3, 1, []), (.iaload, 1, []), (.ifCond .ge 23, 3, [69]), (.aload_n 0, 1, []), (.iload_n 1, 1, []), (.iload_n 2, 1, []), (.iconst 1, 1, []), (.iadd, 1, []), (.iconst 0, 1, []), (.iconst 1, 1, []), (.aload_n 0, 1, []), (.getfield 65, 3, [11, 20, 706, 1]), (.iload_n 3, 1, []), (.iaload, 1, []), (.invokevirtual 228, 3, [128, 5, 1, 949, 11]), (.pop, 1, []), (.goto 57, 3, [123])]),
  (69, [(.aload_n 0, 1, []), (.aload_n 0, 1, []), (.getfield 56, 3, [11, 17, 703, 1]), (.iload_n 3, 1, []), (.iaload, 1, []), (.invokevirtual 171, 3, [99, 1, 1, 837, 11]), (.ifCond .eq 44, 3, [123]), (.aload_n 0, 1, []), (.aload_n 0, 1, []), (.getfield 56, 3, [11, 17, 703, 1]), (.iload_n 3, 1, []), (.iaload, 1, []), (.aload_n 0, 1, []), (.getfield 62, 3, [11, 19, 705, 1]), (.iload_n 3, 1, []), (.iaload, 1, []), (.aload_n 0, 1, []), (.getfield 59, 3, [11, 18, 704, 1]), (.iload_n 3, 1, []), (.iaload, 1, []), (.iconst 0, 1, []), (.aload_n 0, 1, []), (.getfield 65, 3, [11, 20, 706, 1]), (.iload_n 3, 1, []), (.iaload, 1, []), (.iconst 2, 1, []), (.irem, 1, []), (.iconst 1, 1, []), (.if_icmp .ne 7, 3, [118]), (.iconst 1, 1, []), (.goto 4, 3, [119])]),
  (118, [(.iconst 0, 1, [])]),
  (119, [(.invokevirtual 180, 3, [114, 5, 1, 893, 11]), (.pop, 1, [])]),
  (123, [(.iinc 2 1, 3, []), (.goto (-102), 3, [24])]),
  (129, [(.aload_n 0, 1, []), (.invokevirtual 207, 3, [119, 0, 0, 913, 11]), (.aload_n 0, 1, []), (.iload_n 1, 1, []), (.invokevirtual 232, 3, [133, 1, 1, 969, 11]), (.ireturn, 1, [0])])]
/-- QueueBrokerModel.forget(I)I -/
def bk_133 : List (Nat × List Ins) := [(0, [(.aload_n 0, 1, []), (.getfield 50, 3, [11, 15, 701, 1]), (.iload_n 1, 1, []), (.iaload, 1, []), (.istore_n 2, 1, []), (.aload_n 0, 1, []), (.getfield 50, 3, [11, 15, 701, 1]), (.iload_n 1, 1, []), (.iconst 0, 1, []), (.iastore, 1, []), (.iconst 0, 1, []), (.istore_n 3, 1, [])]),
  (16, [(.iload_n 3, 1, []), (.aload_n 0, 1, []), (.getfield 142, 3, [11, 31, 717, 0]), (.if_icmp .ge 26, 3, [47]), (.aload_n 0, 1, []), (.getfield 83, 3, [11, 26, 712, 1]), (.iload_n 3, 1, []), (.iaload, 1, []), (.iload_n 1, 1, []), (.if_icmp .ne 10, 3, [41]), (.aload_n 0, 1, []), (.getfield 89, 3, [11, 28, 714, 1]), (.iload_n 3, 1, []), (.iconst 0, 1, []), (.iastore, 1, [])]),
  (41, [(.iinc 3 1, 3, []), (.goto (-28), 3, [16])]),
  (47, [(.iload_n 2, 1, []), (.ireturn, 1, [0])])]
/-- QueueBrokerModel.rollback(I)I -/
def bk_134 : List (Nat × List Ins) := [(0, [(.iload_n 1, 1, []), (.iconst 4, 1, []), (.invokestatic 119, 3, [95, 2, 1, 822]), (.ifCond .ne 5, 3, [10]), (.iconst (-1), 1, []), (.ireturn, 1, [0])]),
  (10, [(.aload_n 0, 1, []), (.getfield 53, 3, [11, 16, 702, 1]), (.iload_n 1, 1, []), (.baload, 1, []), (.ifCond .eq 11, 3, [27]), (.aload_n 0, 1, []), (.iload_n 1, 1, []), (.invokevirtual 232, 3, [133, 1, 1, 969, 11]), (.goto 5, 3, [29])]),
  (27, [(.bipush (-3), 2, [])]),
  (29, [(.ireturn, 1, [0])])]
/-- QueueBrokerModel.close(I)I -/
def bk_135 : List (Nat × List Ins) := [(0, [(.iload_n 1, 1, []), (.iconst 4, 1, []), (.invokestatic 119, 3, [95, 2, 1, 822]), (.ifCond .ne 5, 3, [10]), (.iconst (-1), 1, []), (.ireturn, 1, [0])]),
  (10, [(.aload_n 0, 1, []), (.iload_n 1, 1, []), (.invokevirtual 232, 3, [133, 1, 1, 969, 11]), (.pop, 1, []), (.iconst 0, 1, []), (.istore_n 2, 1, [])]),
  (18, [(.iload_n 2, 1, []), (.aload_n 0, 1, []), (.getfield 142, 3, [11, 31, 717, 0]), (.if_icmp .ge 25, 3, [48]), (.aload_n 0, 1, []), (.getfield 83, 3, [11, 26, 712, 1]), (.iload_n 2, 1, []), (.iaload, 1, []), (.iload_n 1, 1, []), (.if_icmp .ne 9, 3, [42]), (.aload_n 0, 1, []), (.iload_n 2, 1, []), (.iconst 1, 1, []), (.invokevirtual 224, 3, [129, 2, 0, 953, 11])]),
  (42, [(.iinc 2 1, 3, []), (.goto (-27), 3, [18])]),
  (48, [(.aload_n 0, 1, []), (.getfield 194, 3, [11, 12, 698, 0]), (.iconst 1, 1, []), (.isub, 1, []), (.istore_n 2, 1, [])]),
  (55, [(.iload_n 2, 1, []), (.ifCond .lt 24, 3, [80]), (.aload_n 0, 1, []), (.getfield 38, 3, [11, 10, 696, 1]), (.iload_n 2, 1, []), (.iaload, 1, []), (.iload_n 1, 1, []), (.if_icmp .ne 8, 3, [74]), (.aload_n 0, 1, []), (.iload_n 2, 1, []), (.invokevirtual 197, 3, [108, 1, 0, 870, 11])]),
  (74, [(.iinc 2 (-1), 3, []), (.goto (-22), 3, [55])]),
  (80, [(.aload_n 0, 1, []), (.getfield 44, 3, [11, 13, 699, 1]), (.iload_n 1, 1, []), (.bipush 12, 2, []), (.iastore, 1, []), (.aload_n 0, 1, []), (.getfield 53, 3, [11, 16, 702, 1]), (.iload_n 1, 1, []), (.iconst 0, 1, []), (.bastore, 1, []), (.aload_n 0, 1, []), (.getfield 47, 3, [11, 14, 700, 1]), (.iload_n 1, 1, []), (.iconst 0, 1, []), (.iastore, 1, []), (.iconst 0, 1, []), (.ireturn, 1, [0])])]
/-- QueueBrokerModel.crash()I -/
def bk_136 : List (Nat × List Ins) := [(0, [(.iconst 0, 1, []), (.istore_n 1, 1, [])]),
  (2, [(.iload_n 1, 1, []), (.iconst 4, 1, []), (.if_icmp .ge 15, 3, [19]), (.aload_n 0, 1, []), (.iload_n 1, 1, []), (.invokevirtual 235, 3, [135, 1, 1, 985, 11]), (.pop, 1, []), (.iinc 1 1, 3, []), (.goto (-14), 3, [2])]),
  (19, [(.iconst 0, 1, []), (.istore_n 1, 1, [])]),
  (21, [(.iload_n 1, 1, []), (.iconst 5, 1, []), (.if_icmp .ge 68, 3, [91]), (.aload_n 0, 1, []), (.iload_n 1, 1, []), (.invokevirtual 171, 3, [99, 1, 1, 837, 11]), (.ifCond .eq 54, 3, [85]), (.aload_n 0, 1, []), (.getfield 19, 3, [11, 3, 689, 1]), (.iload_n 1, 1, []), (.baload, 1, []), (.ifCond .eq 6, 3, [46]), (.goto 42, 3, [85])]),
  (46, [(.aload_n 0, 1, []), (.getfield 7, 3, [11, 0, 686, 1]), (.iload_n 1, 1, []), (.iconst (-1), 1, []), (.iastore, 1, []), (.aload_n 0, 1, []), (.getfield 135, 3, [11, 8, 694, 0]), (.iconst 1, 1, []), (.isub, 1, []), (.istore_n 2, 1, [])]),
  (60, [(.iload_n 2, 1, []), (.ifCond .lt 24, 3, [85]), (.aload_n 0, 1, []), (.getfield 26, 3, [11, 5, 691, 1]), (.iload_n 2, 1, []), (.iaload, 1, []), (.iload_n 1, 1, []), (.if_icmp .ne 8, 3, [79]), (.aload_n 0, 1, []), (.iload_n 2, 1, []), (.invokevirtual 191, 3, [105, 1, 0, 858, 11])]),
  (79, [(.iinc 2 (-1), 3, []), (.goto (-22), 3, [60])]),
  (85, [(.iinc 1 1, 3, []), (.goto (-67), 3, [21])]),
  (91, [(.iconst 0, 1, []), (.istore_n 1, 1, [])]),
  (93, [(.iload_n 1, 1, []), (.bipush 6, 2, []), (.if_icmp .ge 32, 3, [128]), (.aload_n 0, 1, []), (.iload_n 1, 1, []), (.invokevirtual 184, 3, [97, 1, 1, 829, 11]), (.ifCond .eq 18, 3, [122]), (.aload_n 0, 1, []), (.getfield 23, 3, [11, 4, 690, 1]), (.iload_n 1, 1, []), (.baload, 1, []), (.ifCond .ne 9, 3, [122]), (.aload_n 0, 1, []), (.iload_n 1, 1, []), (.invokevirtual 238, 3, [106, 1, 1, 986, 11]), (.pop, 1, [])]),
  (122, [(.iinc 1 1, 3, []), (.goto (-32), 3, [93])]),
  (128, [(.aload_n 0, 1, []), (.getfield 142, 3, [11, 31, 717, 0]), (.iconst 1, 1, []), (.isub, 1, []), (.istore_n 1, 1, [])]),
  (135, [(.iload_n 1, 1, []), (.ifCond .lt 23, 3, [159]), (.aload_n 0, 1, []), (.getfield 92, 3, [11, 29, 715, 1]), (.iload_n 1, 1, []), (.baload, 1, []), (.ifCond .ne 8, 3, [153]), (.aload_n 0, 1, []), (.iload_n 1, 1, []), (.invokevirtual 148, 3, [107, 1, 0, 866, 11])]),
  (153, [(.iinc 1 (-1), 3, []), (.goto (-21), 3, [135])]),
  (159, [(.aload_n 0, 1, []), (.getfield 142, 3, [11, 31, 717, 0]), (.ireturn, 1, [0])])]
/-- QueueBrokerModel.ready(III)J -/
def bk_137 : List (Nat × List Ins) := [(0, [(.aload_n 0, 1, []), (.iload_n 1, 1, []), (.invokevirtual 184, 3, [97, 1, 1, 829, 11]), (.ifCond .eq 15, 3, [20]), (.iload_n 2, 1, []), (.ifCond .lt 11, 3, [20]), (.iload_n 3, 1, []), (.iconst 5, 1, []), (.invokestatic 119, 3, [95, 2, 1, 822]), (.ifCond .ne 7, 3, [24])]),
  (20, [(.ldc2_w 241, 3, [18446743073709551616, 991]), (.lreturn, 1, [])]),
  (24, [(.aload_n 0, 1, []), (.iload_n 1, 1, []), (.iload_n 2, 1, []), (.invokevirtual 158, 3, [117, 2, 1, 905, 11]), (.istore 4, 2, []), (.iload 4, 2, []), (.ifCond .ge 9, 3, [43]), (.ldc2_w 241, 3, [18446743073709551616, 991]), (.goto 10, 3, [50])]),
  (43, [(.aload_n 0, 1, []), (.iload 4, 2, []), (.iload_n 3, 1, []), (.invokevirtual 243, 3, [138, 2, 3, 992, 11])]),
  (50, [(.lreturn, 1, [])])]
/-- QueueBrokerModel.field(II)J -/
def bk_138 : List (Nat × List Ins) := [(0, [(.iload_n 2, 1, []), (.ifCond .ne 11, 3, [12]), (.aload_n 0, 1, []), (.getfield 68, 3, [11, 21, 707, 1]), (.iload_n 1, 1, []), (.iaload, 1, []), (.i2l, 1, []), (.lreturn, 1, [])]),
  (12, [(.iload_n 2, 1, []), (.iconst 1, 1, []), (.if_icmp .ne 11, 3, [25]), (.aload_n 0, 1, []), (.getfield 71, 3, [11, 22, 708, 1]), (.iload_n 1, 1, []), (.iaload, 1, []), (.i2l, 1, []), (.lreturn, 1, [])]),
  (25, [(.iload_n 2, 1, []), (.iconst 2, 1, []), (.if_icmp .ne 11, 3, [38]), (.aload_n 0, 1, []), (.getfield 74, 3, [11, 23, 709, 1]), (.iload_n 1, 1, []), (.iaload, 1, []), (.i2l, 1, []), (.lreturn, 1, [])]),
  (38, [(.iload_n 2, 1, []), (.iconst 3, 1, []), (.if_icmp .ne 21, 3, [61]), (.aload_n 0, 1, []), (.getfield 95, 3, [11, 30, 716, 1]), (.iload_n 1, 1, []), (.baload, 1, []), (.ifCond .eq 7, 3, [56]), (.iconst 1, 1, []), (.goto 4, 3, [57])]),
  (56, [(.iconst 0, 1, [])]),
  (57, [(.i2l, 1, []), (.goto 17, 3, [75])]),
  (61, [(.aload_n 0, 1, []), (.getfield 92, 3, [11, 29, 715, 1]), (.iload_n 1, 1, []), (.baload, 1, []), (.ifCond .eq 7, 3, [74]), (.lconst 1, 1, []), (.goto 4, 3, [75])]),
  (74, [(.lconst 0, 1, [])]),
  (75, [(.lreturn, 1, [])])]
/-- QueueBrokerModel.held(III)J -/
def bk_139 : List (Nat × List Ins) := [(0, [(.iload_n 1, 1, []), (.iconst 4, 1, []), (.invokestatic 119, 3, [95, 2, 1, 822]), (.ifCond .eq 16, 3, [21]), (.iload_n 2, 1, []), (.ifCond .lt 12, 3, [21]), (.iload_n 3, 1, []), (.bipush 8, 2, []), (.invokestatic 119, 3, [95, 2, 1, 822]), (.ifCond .ne 7, 3, [25])]),
  (21, [(.ldc2_w 241, 3, [18446743073709551616, 991]), (.lreturn, 1, [])]),
  (25, [(.aload_n 0, 1, []), (.iload_n 1, 1, []), (.iload_n 2, 1, []), (.invokevirtual 247, 3, [140, 2, 1, 1000, 11]), (.istore 4, 2, []), (.iload 4, 2, []), (.ifCond .ge 7, 3, [42]), (.ldc2_w 241, 3, [18446743073709551616, 991]), (.lreturn, 1, [])]),
  (42, [(.iload_n 3, 1, []), (.iconst 5, 1, []), (.if_icmp .ge 11, 3, [55]), (.aload_n 0, 1, []), (.iload 4, 2, []), (.iload_n 3, 1, []), (.invokevirtual 243, 3, [138, 2, 3, 992, 11]), (.lreturn, 1, [])]),
  (55, [(.iload_n 3, 1, []), (.iconst 5, 1, []), (.if_icmp .ne 14, 3, [71]), (.aload_n 0, 1, []), (.getfield 86, 3, [11, 27, 713, 1]), (.iload 4, 2, []), (.iaload, 1, []), (.i2l, 1, []), (.goto 35, 3, [103])]),
  (71, [(.iload_n 3, 1, []), (.bipush 6, 2, []), (.if_icmp .ne 14, 3, [88]), (.aload_n 0, 1, []), (.getfield 77, 3, [11, 24, 710, 1]), (.iload 4, 2, []), (.iaload, 1, []), (.i2l, 1, []), (.goto 18, 3, [103])]),
  (88, [(.aload_n 0, 1, []), (.getfield 89, 3, [11, 28, 714, 1]), (.iload 4, 2, []), (.iaload, 1, []), (.ifCond .eq 7, 3, [102]), (.lconst 1, 1, []), (.goto 4, 3, [103])]),
  (102, [(.lconst 0, 1, [])]),
  (103, [(.lreturn, 1, [])])]
/-- QueueBrokerModel.heldAt(II)I -/
def bk_140 : List (Nat × List Ins) := [(0, [(.iconst 0, 1, []), (.istore_n 3, 1, [])]),
  (2, [(.iload_n 3, 1, []), (.aload_n 0, 1, []), (.getfield 142, 3, [11, 31, 717, 0]), (.if_icmp .ge 81, 3, [88]), (.aload_n 0, 1, []), (.getfield 83, 3, [11, 26, 712, 1]), (.iload_n 3, 1, []), (.iaload, 1, []), (.iload_n 1, 1, []), (.if_icmp .eq 6, 3, [23]), (.goto 62, 3, [82])]),
  (23, [(.iconst 0, 1, []), (.istore 4, 2, []), (.iconst 0, 1, []), (.istore 5, 2, [])]),
  (29, [(.iload 5, 2, []), (.aload_n 0, 1, []), (.getfield 142, 3, [11, 31, 717, 0]), (.if_icmp .ge 39, 3, [74]), (.aload_n 0, 1, []), (.getfield 83, 3, [11, 26, 712, 1]), (.iload 5, 2, []), (.iaload, 1, []), (.iload_n 1, 1, []), (.if_icmp .ne 22, 3, [68]), (.aload_n 0, 1, []), (.getfield 86, 3, [11, 27, 713, 1]), (.iload 5, 2, []), (.iaload, 1, []), (.aload_n 0, 1, []), (.getfield 86, 3, [11, 27, 713, 1]), (.iload_n 3, 1, []), (.iaload, 1, []), (.if_icmp .ge 6, 3, [68]), (.iinc 4 1, 3, [])]),
  (68, [(.iinc 5 1, 3, []), (.goto (-42), 3, [29])]),
  (74, [(.iload 4, 2, []), (.iload_n 2, 1, []), (.if_icmp .ne 5, 3, [82]), (.iload_n 3, 1, []), (.ireturn, 1, [0])]),
  (82, [(.iinc 3 1, 3, []), (.goto (-83), 3, [2])]),
  (88, [(.iconst (-1), 1, []), (.ireturn, 1, [0])])]
/-- QueueBrokerModel.count(II)I -/
def bk_141 : List (Nat × List Ins) := [(0, [(.iload_n 1, 1, []), (.iconst 5, 1, []), (.if_icmp .eq 9, 3, [11]), (.iload_n 1, 1, []), (.bipush 6, 2, []), (.if_icmp .ne 20, 3, [28])]),
  (11, [(.iload_n 1, 1, []), (.iconst 5, 1, []), (.if_icmp .ne 10, 3, [23]), (.aload_n 0, 1, []), (.getfield 177, 3, [11, 39, 725, 0]), (.goto 7, 3, [27])]),
  (23, [(.aload_n 0, 1, []), (.getfield 174, 3, [11, 40, 726, 0])]),
  (27, [(.ireturn, 1, [0])]),
  (28, [(.iload_n 1, 1, []), (.ifCond .eq 8, 3, [37]), (.iload_n 1, 1, []), (.iconst 1, 1, []), (.if_icmp .ne 12, 3, [46])]),
  (37, [(.iload_n 2, 1, []), (.bipush 6, 2, []), (.invokestatic 119, 3, [95, 2, 1, 822]), (.ifCond .ne 40, 3, [83])]),
  (46, [(.iload_n 1, 1, []), (.iconst 2, 1, []), (.if_icmp .eq 14, 3, [62]), (.iload_n 1, 1, []), (.iconst 3, 1, []), (.if_icmp .eq 9, 3, [62]), (.iload_n 1, 1, []), (.bipush 7, 2, []), (.if_icmp .ne 11, 3, [70])]),
  (62, [(.iload_n 2, 1, []), (.iconst 4, 1, []), (.invokestatic 119, 3, [95, 2, 1, 822]), (.ifCond .ne 16, 3, [83])]),
  (70, [(.iload_n 1, 1, []), (.iconst 4, 1, []), (.if_icmp .ne 15, 3, [87]), (.iload_n 2, 1, []), (.iconst 5, 1, []), (.invokestatic 119, 3, [95, 2, 1, 822]), (.ifCond .eq 7, 3, [87])]),
  (83, [(.iconst 1, 1, []), (.goto 4, 3, [88])]),
  (87, [(.iconst 0, 1, [])]),
  (88, [(.istore_n 3, 1, []), (.iload_n 3, 1, []), (.ifCond .ne 7, 3, [97]), (.sipush (-1000), 3, []), (.ireturn, 1, [0])]),
  (97, [(.iload_n 1, 1, []), (.ifCond .ne 21, 3, [119]), (.aload_n 0, 1, []), (.iload_n 2, 1, []), (.invokevirtual 184, 3, [97, 1, 1, 829, 11]), (.ifCond .eq 11, 3, [117]), (.aload_n 0, 1, []), (.iload_n 2, 1, []), (.invokevirtual 155, 3, [116, 1, 1, 901, 11]), (.goto 4, 3, [118])]),
  (117, [(.iconst 0, 1, [])]),
  (118, [(.ireturn, 1, [0])]),
  (119, [(.iload_n 1, 1, []), (.iconst 2, 1, []), (.if_icmp .ne 9, 3, [130]), (.aload_n 0, 1, []), (.iload_n 2, 1, []), (.invokevirtual 217, 3, [125, 1, 1, 937, 11]), (.ireturn, 1, [0])]),
  (130, [(.iload_n 1, 1, []), (.iconst 3, 1, []), (.if_icmp .ne 23, 3, [155]), (.aload_n 0, 1, []), (.getfield 53, 3, [11, 16, 702, 1]), (.iload_n 2, 1, []), (.baload, 1, []), (.ifCond .eq 12, 3, [153]), (.aload_n 0, 1, []), (.getfield 50, 3, [11, 15, 701, 1]), (.iload_n 2, 1, []), (.iaload, 1, []), (.goto 4, 3, [154])]),
  (153, [(.iconst (-1), 1, [])]),
  (154, [(.ireturn, 1, [0])]),
  (155, [(.iconst 0, 1, []), (.istore 4, 2, []), (.iload_n 1, 1, []), (.iconst 4, 1, []), (.if_icmp .ne 38, 3, [198]), (.iconst 0, 1, []), (.istore 5, 2, [])]),
  (166, [(.iload 5, 2, []), (.aload_n 0, 1, []), (.getfield 135, 3, [11, 8, 694, 0]), (.if_icmp .ge 23, 3, [195]), (.aload_n 0, 1, []), (.getfield 26, 3, [11, 5, 691, 1]), (.iload 5, 2, []), (.iaload, 1, []), (.iload_n 2, 1, []), (.if_icmp .ne 6, 3, [189]), (.iinc 4 1, 3, [])]),
  (189, [(.iinc 5 1, 3, []), (.goto (-26), 3, [166])]),
  (195, [(.iload 4, 2, []), (.ireturn, 1, [0])]),
  (198, [(.iconst 0, 1, []), (.istore 5, 2, [])]),
  (201, [(.iload 5, 2, []), (.aload_n 0, 1, []), (.getfield 194, 3, [11, 12, 698, 0]), (.if_icmp .ge 64, 3, [271]), (.iload_n 1, 1, []), (.iconst 1, 1, []), (.if_icmp .ne 17, 3, [229]), (.aload_n 0, 1, []), (.getfield 35, 3, [11, 9, 695, 1]), (.iload 5, 2, []), (.iaload, 1, []), (.iload_n 2, 1, []), (.if_icmp .ne 6, 3, [229]), (.iinc 4 1, 3, [])]),
  (229, [(.iload_n 1, 1, []), (.bipush 7, 2, []), (.if_icmp .ne 33, 3, [265]), (.aload_n 0, 1, []), (.getfield 35, 3, [11, 9, 695, 1]), (.iload 5, 2, []), (.iaload, 1, []), (.ifCond .eq 6, 3, [248]), (.goto 20, 3, [265])]),
  (248, [(.iload 4, 2, []), (.iload_n 2, 1, []), (.if_icmp .ne 11, 3, [262]), (.aload_n 0, 1, []), (.getfield 38, 3, [11, 10, 696, 1]), (.iload 5, 2, []), (.iaload, 1, []), (.ireturn, 1, [0])]),
  (262, [(.iinc 4 1, 3, [])]),
  (265, [(.iinc 5 1, 3, []), (.goto (-67), 3, [201])]),
  (271, [(.iload_n 1, 1, []), (.bipush 7, 2, []), (.if_icmp .ne 7, 3, [281]), (.iconst (-1), 1, []), (.goto 5, 3, [283])]),
  (281, [(.iload 4, 2, [])]),
  (283, [(.ireturn, 1, [0])])]
def bk_law_0 : List (Nat × List Ins) := [(0, [(.new 7, 3, [9, 69]), (.dup, 1, []), (.invokespecial 9, 3, [0, 0, 0, 71, 9]), (.astore_n 1, 1, []), (.new 10, 3, [11, 680]), (.dup, 1, []), (.invokespecial 12, 3, [93, 0, 0, 682, 11]), (.astore_n 2, 1, []), (.iconst 0, 1, []), (.istore_n 3, 1, [])]),
  (18, [(.iload_n 3, 1, []), (.aload_n 0, 1, []), (.arraylength, 1, []), (.bipush 6, 2, []), (.isub, 1, []), (.if_icmp .gt 849, 3, [873]), (.aload_n 0, 1, []), (.iload_n 3, 1, []), (.iaload, 1, []), (.bipush 31, 2, []), (.iand, 1, []), (.tableswitch 834 0 18 #[91, 150, 219, 262, 305, 328, 391, 450, 483, 506, 575, 608, 631, 654, 677, 700, 713, 757, 801], 91, [867, 124, 183, 252, 295, 338, 361, 424, 483, 516, 539, 608, 641, 664, 687, 710, 733, 746, 790, 834])]),
  (124, [(.aload_n 1, 1, []), (.aload_n 0, 1, []), (.iload_n 3, 1, []), (.iconst 1, 1, []), (.iadd, 1, []), (.iaload, 1, []), (.aload_n 0, 1, []), (.iload_n 3, 1, []), (.iconst 2, 1, []), (.iadd, 1, []), (.iaload, 1, []), (.aload_n 0, 1, []), (.iload_n 3, 1, []), (.iconst 3, 1, []), (.iadd, 1, []), (.iaload, 1, []), (.ifCond .eq 7, 3, [147]), (.iconst 1, 1, []), (.goto 4, 3, [148])]),
  (147, [(.iconst 0, 1, [])]),
  (148, [(.invokevirtual 13, 3, [7, 3, 1, 211, 9]), (.aload_n 2, 1, []), (.aload_n 0, 1, []), (.iload_n 3, 1, []), (.iconst 1, 1, []), (.iadd, 1, []), (.iaload, 1, []), (.aload_n 0, 1, []), (.iload_n 3, 1, []), (.iconst 2, 1, []), (.iadd, 1, []), (.iaload, 1, []), (.aload_n 0, 1, []), (.iload_n 3, 1, []), (.iconst 3, 1, []), (.iadd, 1, []), (.iaload, 1, []), (.ifCond .eq 7, 3, [174]), (.iconst 1, 1, []), (.goto 4, 3, [175])]),
  (174, [(.iconst 0, 1, [])]),
  (175, [(.invokevirtual 17, 3, [94, 3, 1, 818, 11]), (.if_icmp .eq 689, 3, [867]), (.iconst 0, 1, []), (.ireturn, 1, [4])]),
  (183, [(.aload_n 1, 1, []), (.aload_n 0, 1, []), (.iload_n 3, 1, []), (.iconst 1, 1, []), (.iadd, 1, []), (.iaload, 1, []), (.aload_n 0, 1, []), (.iload_n 3, 1, []), (.iconst 2, 1, []), (.iadd, 1, []), (.iaload, 1, []), (.aload_n 0, 1, []), (.iload_n 3, 1, []), (.iconst 3, 1, []), (.iadd, 1, []), (.iaload, 1, []), (.aload_n 0, 1, []), (.iload_n 3, 1, []), (.iconst 4, 1, []), (.iadd, 1, []), (.iaload, 1, []), (.ifCond .eq 7, 3, [211]), (.iconst 1, 1, []), (.goto 4, 3, [212])]),
  (211, [(.iconst 0, 1, [])]),
  (212, [(.invokevirtual 18, 3, [9, 4, 1, 218, 9]), (.aload_n 2, 1, []), (.aload_n 0, 1, []), (.iload_n 3, 1, []), (.iconst 1, 1, []), (.iadd, 1, []), (.iaload, 1, []), (.aload_n 0, 1, []), (.iload_n 3, 1, []), (.iconst 2, 1, []), (.iadd, 1, []), (.iaload, 1, []), (.aload_n 0, 1, []), (.iload_n 3, 1, []), (.iconst 3, 1, []), (.iadd, 1, []), (.iaload, 1, []), (.aload_n 0, 1, []), (.iload_n 3, 1, []), (.iconst 4, 1, []), (.iadd, 1, []), (.iaload, 1, []), (.ifCond .eq 7, 3, [243]), (.iconst 1, 1, []), (.goto 4, 3, [244])]),
  (243, [(.iconst 0, 1, [])]),
  (244, [(.invokevirtual 22, 3, [96, 4, 1, 825, 11]), (.if_icmp .eq 620, 3, [867]), (.iconst 0, 1, []), (.ireturn, 1, [4])])]
def bk_law_1 : List (Nat × List Ins) := [(252, [(.aload_n 1, 1, []), (.aload_n 0, 1, []), (.iload_n 3, 1, []), (.iconst 1, 1, []), (.iadd, 1, []), (.iaload, 1, []), (.aload_n 0, 1, []), (.iload_n 3, 1, []), (.iconst 2, 1, []), (.iadd, 1, []), (.iaload, 1, []), (.aload_n 0, 1, []), (.iload_n 3, 1, []), (.iconst 3, 1, []), (.iadd, 1, []), (.iaload, 1, []), (.invokevirtual 23, 3, [10, 3, 1, 222, 9]), (.aload_n 2, 1, []), (.aload_n 0, 1, []), (.iload_n 3, 1, []), (.iconst 1, 1, []), (.iadd, 1, []), (.iaload, 1, []), (.aload_n 0, 1, []), (.iload_n 3, 1, []), (.iconst 2, 1, []), (.iadd, 1, []), (.iaload, 1, []), (.aload_n 0, 1, []), (.iload_n 3, 1, []), (.iconst 3, 1, []), (.iadd, 1, []), (.iaload, 1, []), (.invokevirtual 27, 3, [98, 3, 1, 833, 11]), (.if_icmp .eq 577, 3, [867]), (.iconst 0, 1, []), (.ireturn, 1, [4])]),
  (295, [(.aload_n 1, 1, []), (.aload_n 0, 1, []), (.iload_n 3, 1, []), (.iconst 1, 1, []), (.iadd, 1, []), (.iaload, 1, []), (.aload_n 0, 1, []), (.iload_n 3, 1, []), (.iconst 2, 1, []), (.iadd, 1, []), (.iaload, 1, []), (.aload_n 0, 1, []), (.iload_n 3, 1, []), (.iconst 3, 1, []), (.iadd, 1, []), (.iaload, 1, []), (.invokevirtual 28, 3, [31, 3, 1, 342, 9]), (.aload_n 2, 1, []), (.aload_n 0, 1, []), (.iload_n 3, 1, []), (.iconst 1, 1, []), (.iadd, 1, []), (.iaload, 1, []), (.aload_n 0, 1, []), (.iload_n 3, 1, []), (.iconst 2, 1, []), (.iadd, 1, []), (.iaload, 1, []), (.aload_n 0, 1, []), (.iload_n 3, 1, []), (.iconst 3, 1, []), (.iadd, 1, []), (.iaload, 1, []), (.invokevirtual 31, 3, [104, 3, 1, 854, 11]), (.if_icmp .eq 534, 3, [867]), (.iconst 0, 1, []), (.ireturn, 1, [4])]),
  (338, [(.aload_n 1, 1, []), (.aload_n 0, 1, []), (.iload_n 3, 1, []), (.iconst 1, 1, []), (.iadd, 1, []), (.iaload, 1, []), (.invokevirtual 32, 3, [34, 1, 1, 355, 9]), (.aload_n 2, 1, []), (.aload_n 0, 1, []), (.iload_n 3, 1, []), (.iconst 1, 1, []), (.iadd, 1, []), (.iaload, 1, []), (.invokevirtual 36, 3, [106, 1, 1, 862, 11]), (.if_icmp .eq 511, 3, [867]), (.iconst 0, 1, []), (.ireturn, 1, [4])]),
  (361, [(.aload_n 1, 1, []), (.aload_n 0, 1, []), (.iload_n 3, 1, []), (.iconst 1, 1, []), (.iadd, 1, []), (.iaload, 1, []), (.aload_n 0, 1, []), (.iload_n 3, 1, []), (.iconst 2, 1, []), (.iadd, 1, []), (.iaload, 1, []), (.aload_n 0, 1, []), (.iload_n 3, 1, []), (.iconst 3, 1, []), (.iadd, 1, []), (.iaload, 1, []), (.aload_n 0, 1, []), (.iload_n 3, 1, []), (.iconst 4, 1, []), (.iadd, 1, []), (.iaload, 1, []), (.aload_n 0, 1, []), (.iload_n 3, 1, []), (.iconst 5, 1, []), (.iadd, 1, []), (.iaload, 1, []), (.invokevirtual 37, 3, [39, 5, 1, 379, 9]), (.aload_n 2, 1, []), (.aload_n 0, 1, []), (.iload_n 3, 1, []), (.iconst 1, 1, []), (.iadd, 1, []), (.iaload, 1, []), (.aload_n 0, 1, []), (.iload_n 3, 1, []), (.iconst 2, 1, []), (.iadd, 1, []), (.iaload, 1, []), (.aload_n 0, 1, []), (.iload_n 3, 1, []), (.iconst 3, 1, []), (.iadd, 1, []), (.iaload, 1, []), (.aload_n 0, 1, []), (.iload_n 3, 1, []), (.iconst 4, 1, []), (.iadd, 1, []), (.iaload, 1, []), (.aload_n 0, 1, []), (.iload_n 3, 1, []), (.iconst 5, 1, []), (.iadd, 1, []), (.iaload, 1, []), (.invokevirtual 41, 3, [109, 5, 1, 874, 11]), (.if_icmp .eq 448, 3, [867]), (.iconst 0, 1, []), (.ireturn, 1, [4])]),
  (424, [(.aload_n 1, 1, []), (.aload_n 0, 1, []), (.iload_n 3, 1, []), (.iconst 1, 1, []), (.iadd, 1, []), (.iaload, 1, []), (.aload_n 0, 1, []), (.iload_n 3, 1, []), (.iconst 2, 1, []), (.iadd, 1, []), (.iaload, 1, []), (.aload_n 0, 1, []), (.iload_n 3, 1, []), (.iconst 3, 1, []), (.iadd, 1, []), (.iaload, 1, []), (.ifCond .eq 7, 3, [447]), (.iconst 1, 1, []), (.goto 4, 3, [448])]),
  (447, [(.iconst 0, 1, [])]),
  (448, [(.invokevirtual 42, 3, [57, 3, 1, 520, 9]), (.aload_n 2, 1, []), (.aload_n 0, 1, []), (.iload_n 3, 1, []), (.iconst 1, 1, []), (.iadd, 1, []), (.iaload, 1, []), (.aload_n 0, 1, []), (.iload_n 3, 1, []), (.iconst 2, 1, []), (.iadd, 1, []), (.iaload, 1, []), (.aload_n 0, 1, []), (.iload_n 3, 1, []), (.iconst 3, 1, []), (.iadd, 1, []), (.iaload, 1, []), (.ifCond .eq 7, 3, [474]), (.iconst 1, 1, []), (.goto 4, 3, [475])]),
  (474, [(.iconst 0, 1, [])]),
  (475, [(.invokevirtual 45, 3, [120, 3, 1, 917, 11]), (.if_icmp .eq 389, 3, [867]), (.iconst 0, 1, []), (.ireturn, 1, [4])]),
  (483, [(.aload_n 1, 1, []), (.aload_n 0, 1, []), (.iload_n 3, 1, []), (.iconst 1, 1, []), (.iadd, 1, []), (.iaload, 1, []), (.aload_n 0, 1, []), (.iload_n 3, 1, []), (.iconst 2, 1, []), (.iadd, 1, []), (.iaload, 1, []), (.invokevirtual 46, 3, [60, 2, 1, 545, 9]), (.aload_n 2, 1, []), (.aload_n 0, 1, []), (.iload_n 3, 1, []), (.iconst 1, 1, []), (.iadd, 1, []), (.iaload, 1, []), (.aload_n 0, 1, []), (.iload_n 3, 1, []), (.iconst 2, 1, []), (.iadd, 1, []), (.iaload, 1, []), (.invokevirtual 50, 3, [123, 2, 1, 929, 11]), (.if_icmp .eq 356, 3, [867]), (.iconst 0, 1, []), (.ireturn, 1, [4])]),
  (516, [(.aload_n 1, 1, []), (.aload_n 0, 1, []), (.iload_n 3, 1, []), (.iconst 1, 1, []), (.iadd, 1, []), (.iaload, 1, []), (.invokevirtual 51, 3, [62, 1, 1, 555, 9]), (.aload_n 2, 1, []), (.aload_n 0, 1, []), (.iload_n 3, 1, []), (.iconst 1, 1, []), (.iadd, 1, []), (.iaload, 1, []), (.invokevirtual 54, 3, [124, 1, 1, 933, 11]), (.if_icmp .eq 333, 3, [867]), (.iconst 0, 1, []), (.ireturn, 1, [4])]),
  (539, [(.aload_n 1, 1, []), (.aload_n 0, 1, []), (.iload_n 3, 1, []), (.iconst 1, 1, []), (.iadd, 1, []), (.iaload, 1, []), (.aload_n 0, 1, []), (.iload_n 3, 1, []), (.iconst 2, 1, []), (.iadd, 1, []), (.iaload, 1, []), (.aload_n 0, 1, []), (.iload_n 3, 1, []), (.iconst 3, 1, []), (.iadd, 1, []), (.iaload, 1, []), (.ifCond .eq 7, 3, [562]), (.iconst 1, 1, []), (.goto 4, 3, [563])])]
def bk_law_2 : List (Nat × List Ins) := [(562, [(.iconst 0, 1, [])]),
  (563, [(.aload_n 0, 1, []), (.iload_n 3, 1, []), (.iconst 4, 1, []), (.iadd, 1, []), (.iaload, 1, []), (.invokevirtual 55, 3, [66, 4, 1, 572, 9]), (.aload_n 2, 1, []), (.aload_n 0, 1, []), (.iload_n 3, 1, []), (.iconst 1, 1, []), (.iadd, 1, []), (.iaload, 1, []), (.aload_n 0, 1, []), (.iload_n 3, 1, []), (.iconst 2, 1, []), (.iadd, 1, []), (.iaload, 1, []), (.aload_n 0, 1, []), (.iload_n 3, 1, []), (.iconst 3, 1, []), (.iadd, 1, []), (.iaload, 1, []), (.ifCond .eq 7, 3, [594]), (.iconst 1, 1, []), (.goto 4, 3, [595])]),
  (594, [(.iconst 0, 1, [])]),
  (595, [(.aload_n 0, 1, []), (.iload_n 3, 1, []), (.iconst 4, 1, []), (.iadd, 1, []), (.iaload, 1, []), (.invokevirtual 59, 3, [126, 4, 1, 941, 11]), (.if_icmp .eq 264, 3, [867]), (.iconst 0, 1, []), (.ireturn, 1, [4])]),
  (608, [(.aload_n 1, 1, []), (.aload_n 0, 1, []), (.iload_n 3, 1, []), (.iconst 1, 1, []), (.iadd, 1, []), (.iaload, 1, []), (.aload_n 0, 1, []), (.iload_n 3, 1, []), (.iconst 2, 1, []), (.iadd, 1, []), (.iaload, 1, []), (.invokevirtual 60, 3, [73, 2, 1, 600, 9]), (.aload_n 2, 1, []), (.aload_n 0, 1, []), (.iload_n 3, 1, []), (.iconst 1, 1, []), (.iadd, 1, []), (.iaload, 1, []), (.aload_n 0, 1, []), (.iload_n 3, 1, []), (.iconst 2, 1, []), (.iadd, 1, []), (.iaload, 1, []), (.invokevirtual 63, 3, [130, 2, 1, 957, 11]), (.if_icmp .eq 231, 3, [867]), (.iconst 0, 1, []), (.ireturn, 1, [4])]),
  (641, [(.aload_n 1, 1, []), (.aload_n 0, 1, []), (.iload_n 3, 1, []), (.iconst 1, 1, []), (.iadd, 1, []), (.iaload, 1, []), (.invokevirtual 64, 3, [74, 1, 1, 604, 9]), (.aload_n 2, 1, []), (.aload_n 0, 1, []), (.iload_n 3, 1, []), (.iconst 1, 1, []), (.iadd, 1, []), (.iaload, 1, []), (.invokevirtual 67, 3, [131, 1, 1, 961, 11]), (.if_icmp .eq 208, 3, [867]), (.iconst 0, 1, []), (.ireturn, 1, [4])]),
  (664, [(.aload_n 1, 1, []), (.aload_n 0, 1, []), (.iload_n 3, 1, []), (.iconst 1, 1, []), (.iadd, 1, []), (.iaload, 1, []), (.invokevirtual 68, 3, [75, 1, 1, 608, 9]), (.aload_n 2, 1, []), (.aload_n 0, 1, []), (.iload_n 3, 1, []), (.iconst 1, 1, []), (.iadd, 1, []), (.iaload, 1, []), (.invokevirtual 71, 3, [132, 1, 1, 965, 11]), (.if_icmp .eq 185, 3, [867]), (.iconst 0, 1, []), (.ireturn, 1, [4])]),
  (687, [(.aload_n 1, 1, []), (.aload_n 0, 1, []), (.iload_n 3, 1, []), (.iconst 1, 1, []), (.iadd, 1, []), (.iaload, 1, []), (.invokevirtual 72, 3, [78, 1, 1, 621, 9]), (.aload_n 2, 1, []), (.aload_n 0, 1, []), (.iload_n 3, 1, []), (.iconst 1, 1, []), (.iadd, 1, []), (.iaload, 1, []), (.invokevirtual 75, 3, [134, 1, 1, 973, 11]), (.if_icmp .eq 162, 3, [867]), (.iconst 0, 1, []), (.ireturn, 1, [4])]),
  (710, [(.aload_n 1, 1, []), (.aload_n 0, 1, []), (.iload_n 3, 1, []), (.iconst 1, 1, []), (.iadd, 1, []), (.iaload, 1, []), (.invokevirtual 76, 3, [79, 1, 1, 625, 9]), (.aload_n 2, 1, []), (.aload_n 0, 1, []), (.iload_n 3, 1, []), (.iconst 1, 1, []), (.iadd, 1, []), (.iaload, 1, []), (.invokevirtual 79, 3, [135, 1, 1, 977, 11]), (.if_icmp .eq 139, 3, [867]), (.iconst 0, 1, []), (.ireturn, 1, [4])]),
  (733, [(.aload_n 1, 1, []), (.invokevirtual 80, 3, [82, 0, 1, 637, 9]), (.aload_n 2, 1, []), (.invokevirtual 84, 3, [136, 0, 1, 981, 11]), (.if_icmp .eq 126, 3, [867]), (.iconst 0, 1, []), (.ireturn, 1, [4])]),
  (746, [(.aload_n 1, 1, []), (.aload_n 0, 1, []), (.iload_n 3, 1, []), (.iconst 1, 1, []), (.iadd, 1, []), (.iaload, 1, []), (.aload_n 0, 1, []), (.iload_n 3, 1, []), (.iconst 2, 1, []), (.iadd, 1, []), (.iaload, 1, []), (.aload_n 0, 1, []), (.iload_n 3, 1, []), (.iconst 3, 1, []), (.iadd, 1, []), (.iaload, 1, []), (.invokevirtual 85, 3, [85, 3, 3, 649, 9]), (.aload_n 2, 1, []), (.aload_n 0, 1, []), (.iload_n 3, 1, []), (.iconst 1, 1, []), (.iadd, 1, []), (.iaload, 1, []), (.aload_n 0, 1, []), (.iload_n 3, 1, []), (.iconst 2, 1, []), (.iadd, 1, []), (.iaload, 1, []), (.aload_n 0, 1, []), (.iload_n 3, 1, []), (.iconst 3, 1, []), (.iadd, 1, []), (.iaload, 1, []), (.invokevirtual 89, 3, [137, 3, 3, 987, 11]), (.lcmp, 1, []), (.ifCond .eq 82, 3, [867]), (.iconst 0, 1, []), (.ireturn, 1, [4])]),
  (790, [(.aload_n 1, 1, []), (.aload_n 0, 1, []), (.iload_n 3, 1, []), (.iconst 1, 1, []), (.iadd, 1, []), (.iaload, 1, []), (.aload_n 0, 1, []), (.iload_n 3, 1, []), (.iconst 2, 1, []), (.iadd, 1, []), (.iaload, 1, []), (.aload_n 0, 1, []), (.iload_n 3, 1, []), (.iconst 3, 1, []), (.iadd, 1, []), (.iaload, 1, []), (.invokevirtual 90, 3, [87, 3, 3, 657, 9]), (.aload_n 2, 1, []), (.aload_n 0, 1, []), (.iload_n 3, 1, []), (.iconst 1, 1, []), (.iadd, 1, []), (.iaload, 1, []), (.aload_n 0, 1, []), (.iload_n 3, 1, []), (.iconst 2, 1, []), (.iadd, 1, []), (.iaload, 1, []), (.aload_n 0, 1, []), (.iload_n 3, 1, []), (.iconst 3, 1, []), (.iadd, 1, []), (.iaload, 1, []), (.invokevirtual 93, 3, [139, 3, 3, 996, 11]), (.lcmp, 1, []), (.ifCond .eq 38, 3, [867]), (.iconst 0, 1, []), (.ireturn, 1, [4])])]
def bk_law_3 : List (Nat × List Ins) := [(834, [(.aload_n 1, 1, []), (.aload_n 0, 1, []), (.iload_n 3, 1, []), (.iconst 1, 1, []), (.iadd, 1, []), (.iaload, 1, []), (.aload_n 0, 1, []), (.iload_n 3, 1, []), (.iconst 2, 1, []), (.iadd, 1, []), (.iaload, 1, []), (.invokevirtual 94, 3, [89, 2, 1, 664, 9]), (.aload_n 2, 1, []), (.aload_n 0, 1, []), (.iload_n 3, 1, []), (.iconst 1, 1, []), (.iadd, 1, []), (.iaload, 1, []), (.aload_n 0, 1, []), (.iload_n 3, 1, []), (.iconst 2, 1, []), (.iadd, 1, []), (.iaload, 1, []), (.invokevirtual 97, 3, [141, 2, 1, 1004, 11]), (.if_icmp .eq 5, 3, [867]), (.iconst 0, 1, []), (.ireturn, 1, [4])]),
  (867, [(.iinc 3 6, 3, []), (.goto (-852), 3, [18])]),
  (873, [(.iconst 1, 1, []), (.ireturn, 1, [4])])]
def bk_law : List (Nat × List Ins) := bk_law_0 ++ (bk_law_1 ++ (bk_law_2 ++ (bk_law_3)))
def bkL : List (List (Nat × List Ins)) := [bk_0, bk_1, bk_2, bk_3, bk_4, bk_5, bk_6, bk_7, bk_8, bk_9, bk_10, bk_11, bk_12, bk_13, bk_14, bk_15, bk_16, bk_17, bk_18, bk_19, bk_20, bk_21, bk_22, bk_23, bk_24, bk_25, bk_26, bk_27, bk_28, bk_29, bk_30, bk_31, bk_32, bk_33, bk_34, bk_35, bk_36, bk_37, bk_38, bk_39, bk_40, bk_41, bk_42, bk_43, bk_44, bk_45, bk_46, bk_47, bk_48, bk_49, bk_50, bk_51, bk_52, bk_53, bk_54, bk_55, bk_56, bk_57, bk_58, bk_59, bk_60, bk_61, bk_62, bk_63, bk_64, bk_65, bk_66, bk_67, bk_68, bk_69, bk_70, bk_71, bk_72, bk_73, bk_74, bk_75, bk_76, bk_77, bk_78, bk_79, bk_80, bk_81, bk_82, bk_83, bk_84, bk_85, bk_86, bk_87, bk_88, bk_89, bk_90, bk_91, bk_92, bk_93, bk_94, bk_95, bk_96, bk_97, bk_98, bk_99, bk_100, bk_101, bk_102, bk_103, bk_104, bk_105, bk_106, bk_107, bk_108, bk_109, bk_110, bk_111, bk_112, bk_113, bk_114, bk_115, bk_116, bk_117, bk_118, bk_119, bk_120, bk_121, bk_122, bk_123, bk_124, bk_125, bk_126, bk_127, bk_128, bk_129, bk_130, bk_131, bk_132, bk_133, bk_134, bk_135, bk_136, bk_137, bk_138, bk_139, bk_140, bk_141]
def mbk (j : Nat) : List (Nat × List Ins) := (bkL[j]?).getD []
/-! WHAT A PROGRAM CHECKS of a block: the bytes decode so, and each word named lies at its place in the tables. -/
def lw_is (w : Nat) (c : Cond) : Bool := decide (lw_tbl[w]? = some c)
def mD : MethodName × ByteArray × Nat × Option FieldType × Nat × Nat × Nat × Nat × Nat := (⟨"", "", ""⟩, ⟨#[]⟩, 0, none, 0, 0, 0, 0, 0)
def mR_ (j : Nat) : MethodName × ByteArray × Nat × Option FieldType × Nat × Nat × Nat × Nat × Nat := (mI[j]?).getD mD
def mY (j : Nat) : MethodName := (mR_ j).1
def mB (j : Nat) : ByteArray := (mR_ j).2.1
def mL (j : Nat) : Nat := (mR_ j).2.2.1
def mR (j : Nat) : Option FieldType := (mR_ j).2.2.2.1
def mN (j : Nat) : Nat := (mR_ j).2.2.2.2.1
def fld_ok (own : String) (idx t k w : Nat) : Bool := match vwc[t - 1]? with
  | some (C, T, N) => Nat.ble 1 t && Nat.blt t 100 && Nat.blt k N && (lw_is w (.fieldLink own idx (T k).1 (T k).2.1 (T k).2.2.1) || (lw_is w (.fieldLink own idx C (T k).2.1 (T k).2.2.1) && lw_is 101 (.sameField C (T k).1 (T k).2.1 (T k).2.2.1)))
  | none => false
def kd_ok : Nat → Option FieldType → Bool
  | 0, some .int => true
  | 4, some .boolean => true
  | 1, some (.object _) => true
  | 1, some (.array _) => true
  | 2, some (.object _) => true
  | _, _ => false
def fin_ok (own : String) (ini : Bool) (t k kd : Nat) : Bool := match vwc[t - 1]? with
  | some (_, T, _) => kd_ok kd (parseFieldDescriptor (T k).2.2.1) && (!(T k).2.2.2 || (ini && decide ((T k).1 = own)))
  | none => false
def cl_ok (own : String) (idx t w : Nat) : Bool := match vwc[t - 1]? with
  | some (C, _, _) => Nat.ble 1 t && Nat.blt t 100 && lw_is w (.classLink own idx C)
  | none => false
def chk1 (own : String) (nL : Nat) (rt : Option FieldType) (ini : Bool) (i : Instr) (n : Nat) (an : List Nat) (pc : Nat) : Bool := match i with
  | .bipush _ | .iload _ | .aload _ => n == 2
  | .sipush _ => n == 3
  | .ldc idx => n == 2 && match an with
    | [v, w] => lw_is w (.constant own idx (Int32.ofNat v))
    | [w] => lw_is w (.classLink own idx "[Ljava/lang/Object;")
    | _ => true
  | .ldc_w idx => n == 3 && match an with
    | [v, w] => lw_is w (.constant own idx (Int32.ofNat v))
    | _ => true
  | .ldc2_w idx => n == 3 && match an with
    | [v, w] => lw_is w (.constantLong own idx (Int64.ofNat v))
    | _ => true
  | .istore x | .astore x => n == 2 && Nat.blt x nL
  | .istore_n x | .astore_n x => n == 1 && Nat.blt x.val nL
  | .iinc x _ => n == 3 && Nat.blt x nL
  | .ifCond _ off | .if_icmp _ off | .if_acmp _ off | .ifnonnull off | .goto off => n == 3 && match an with
    | [t] => decide ((pc : Int) + off = (t : Int))
    | _ => true
  | .tableswitch dflt lo hi offs => match an with
    | d :: ts => decide ((pc : Int) + dflt = (d : Int)) && decide (ts.map (fun (t : Nat) => ((t : Int) - (pc : Int))) = offs.toList) && decide (lo + (ts.length : Int) = hi + 1)
    | _ => true
  | .getfield idx => n == 3 && match an with
    | [t, k, w, _] => fld_ok own idx t k w
    | _ => true
  | .putfield idx => n == 3 && match an with
    | [t, k, w, kd] => fld_ok own idx t k w && fin_ok own ini t k kd
    | _ => true
  | .getstatic idx => n == 3 && match an with
    | [w] => lw_is w (.fieldLink own idx "java/util/ArrayList" "DEFAULTCAPACITY_EMPTY_ELEMENTDATA" "[Ljava/lang/Object;")
    | _ => true
  | .new idx => n == 3 && match an with
    | [t, w] => cl_ok own idx t w
    | _ => true
  | .newarray ty => n == 2 && match an with
    | [t] => (decide (ty = .int) && t == 104) || (decide (ty = .boolean) && t == 105)
    | _ => true
  | .anewarray idx => n == 3 && match an with
    | [t, w] => Nat.ble 100 t && Nat.blt t 104 && match aks[t - 100]? with
      | some (.object C) => lw_is w (.classLink own idx C)
      | _ => false
    | _ => true
  | .checkcast idx => n == 3 && match an with
    | [t, w, cw] => cl_ok own idx t w && match vwc[t - 1]? with
      | some (C, _, _) => lw_is cw (.castable C C)
      | none => false
    | _ => true
  | .invokevirtual idx => n == 3 && match an with
    | [j, na, _, w, tC] => Nat.blt j mI.length && lw_is w (.methodLink own idx (mY j)) && mN j == na + 1 && Nat.ble 1 tC && Nat.blt tC 100 && lw_is (mR_ j).2.2.2.2.2.2.1 (.instanceMethod (mY j)) && lw_is (mR_ j).2.2.2.2.2.2.2.1 (.selects (mY j).cls (mY j) (mY j)) && match vwc[tC - 1]? with
      | some (C, _, _) => decide ((mY j).cls = C)
      | none => false
    | [w] => lw_is w (.methodLink own idx ⟨"java/lang/Object", "getClass", "()Ljava/lang/Class;"⟩)
    | _ => true
  | .invokespecial idx => n == 3 && match an with
    | [j, na, _, w, _] => Nat.blt j mI.length && (lw_is w (.methodLink own idx (mY j)) || lw_is w (.methodLinkNest own idx (mY j) "QueueBroker")) && mN j == na + 1 && decide ((mY j).name = "<init>") && decide (mR j = none) && lw_is (mR_ j).2.2.2.2.2.2.1 (.instanceMethod (mY j))
    | [w] => lw_is w (.methodLink own idx objectInit)
    | _ => true
  | .invokestatic idx => n == 3 && match an with
    | [j, na, _, w] => Nat.blt j mI.length && lw_is w (.methodLink own idx (mY j)) && mN j == na && lw_is (mR_ j).2.2.2.2.2.2.1 (.static (mY j))
    | [0, w] => lw_is w (.methodLink own idx Lib.Math.max.name)
    | [1, w] => lw_is w (.methodLink own idx Lib.Math.min.name)
    | [2, w] => lw_is w (.methodLink own idx arraycopyName)
    | _ => true
  | .ireturn => n == 1 && match an with
    | [0] => decide (rt = some .int)
    | [4] => decide (rt = some .boolean)
    | _ => true
  | .lreturn => n == 1 && decide (rt = some .long)
  | .areturn => n == 1 && match rt with
    | some (.object _) => true
    | some (.array _) => true
    | _ => false
  | .return_ => n == 1 && decide (rt = none)
  | _ => n == 1
def chk (own : String) (cc : ByteArray) (nL : Nat) (rt : Option FieldType) (ini : Bool) : List Ins → Nat → Bool
  | [], _ => true
  | (i, n, an) :: r, pc => decide (decode cc pc = .ok (i, n)) && (chk1 own nL rt ini i n an pc && chk own cc nL rt ini r (pc + n))
def chkB (own : String) (cc : ByteArray) (nL : Nat) (rt : Option FieldType) (ini : Bool) (b : List (Nat × List Ins)) : Bool := b.all (fun x => chk own cc nL rt ini x.2 x.1)
/-- a method's own words, and its blocks -/
def chkM (j : Nat) : Bool :=
  plainName (mY j).cls && lw_is (mR_ j).2.2.2.2.2.1 (.code (mY j) (mB j) (mL j) (mR j)) && lw_is (mR_ j).2.2.2.2.2.2.2.2 (.initialized (mY j).cls) && Nat.ble (mL j) 12 && Nat.ble (mN j) (mL j) &&
  decide ((mY j).cls ≠ "java/lang/invoke/MethodHandle") && decide ((mY j).cls ≠ "java/lang/invoke/VarHandle") &&
  (match (parseMethodDescriptor (mY j).desc).map (fun d => d.parameters.length) with
    | some n => (decide (lw_is (mR_ j).2.2.2.2.2.2.1 (.static (mY j)) = true) && mN j == n) || (decide (lw_is (mR_ j).2.2.2.2.2.2.1 (.instanceMethod (mY j)) = true) && mN j == n + 1)
    | none => false) &&
  chkB (mY j).cls (mB j) (mL j) (mR j) (decide ((mY j).name = "<init>")) (mbk j)
/-- a method's answers: d frames deep at the most -/
def WP (gc : Nat → Nat) : Nat → Nat → List Value → AH → PT → Prop
  | 0, _, _, _, _ => False
  | d + 1, j, args, h, q => match args.all c1_, Nat.ble args.length (mL j) with
    | true, true => ∃ q0 : PT, (∀ r h', q0 r h' → q r h') ∧ Tf gc (WP gc d) (mbk j) q0 0 (args ++ List.replicate (mL j - args.length) (.retAddr 0)) [] h
    | _, _ => False
/-- the end may be weakened -/
theorem WP_post {gc : Nat → Nat} {d j : Nat} {args : List Value} {h : AH} {q q' : PT} (hw : WP gc d j args h q) (hq : ∀ r h', q r h' → q' r h') : WP gc d j args h q' := by
  cases d with
  | zero => exact hw
  | succ d =>
    simp only [WP] at hw ⊢
    split at hw
    · obtain ⟨q0, h1, h2⟩ := hw
      exact ⟨q0, fun r h' z => hq r h' (h1 r h' z), h2⟩
    · exact hw
